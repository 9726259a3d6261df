/-! the step, instruction by instruction, as single stores -/
section
variable {o g L : Nat → Nat} {c : Nat → Nat} {t : Nat}
/-- what a NOTIFY has done to the first n threads -/
def zc_nf (g : Nat → Nat) (c : Nat → Nat) (a n : Nat) : Nat → Nat := fun j =>
  if 12 ≤ j ∧ j < 12 + n ∧ c j = 1 ∧ g (zc_pc c (j - 12)) = a then 2 else c j
theorem zc_mk {d : Nat → Nat} {p : Nat} (ht : t < 3) (hv : ∀ j, j < 4 → d j = zc_nv o g c t j) (ha : ∀ w, w < 3 → d (4 + w) = if w = t then zc_na o g c t else c (4 + w))
    (hp : ∀ w, w < 3 → w ≠ t → d (7 + w) = c (7 + w)) (hq : p = zc_np o g L c t)
    (hl : ∀ l, l < 2 → d (10 + l) = zc_nt o g c t l) (hw : ∀ w, w < 3 → d (12 + w) = zc_nw o g c t w) (hb : d 15 = zc_nb o g c t) (hz : ∀ j, 16 ≤ j → d j = c j) :
    zc_up d (7 + t) p = zc_step o g L c t := by
  refine zc_ext (fun j hj => ?_) (fun w hw' => ?_) (fun w hw' => ?_) (fun l hl' => ?_) (fun w hw' => ?_) ?_ (fun j hj => ?_)
  · rw [zc_up_n (by omega), zc_sv hj, hv j hj]
  · rw [zc_up_n (by omega), zc_sa hw', ha w hw']
  · rw [zc_sp hw']
    by_cases e : w = t
    · rw [if_pos e, e, zc_up_s, hq]
    · rw [if_neg e, zc_up_n (by omega), hp w hw' e]
  · rw [zc_up_n (by omega), zc_st hl', hl l hl']
  · rw [zc_up_n (by omega), zc_sw hw', hw w hw']
  · rw [zc_up_n (by omega), zc_sb, hb]
  · rw [zc_up_n (by omega), zc_sz hj, hz j hj]
theorem zc_e0 (ht : t < 3) (h : o (zc_pc c t) = 0) (hg : g (zc_pc c t) < 4) :
    zc_up (zc_up c (4 + t) (c (g (zc_pc c t)))) (7 + t) (zc_pl L t (c (7 + t) + 1)) = zc_step o g L c t := by
  refine zc_mk ht (fun j hj => ?_) (fun w hw => ?_) (fun w hw hn => ?_) ?_ (fun l hl => ?_) (fun w hw => ?_) ?_ (fun j hj => ?_)
  · rw [zc_up_n (by omega)]; simp [zc_nv, h]
  · by_cases e : w = t
    · subst e; rw [zc_up_s]; simp [zc_na, h]
    · rw [zc_up_n (by omega), if_neg e]
  · rw [zc_up_n (by omega)]
  · simp [zc_np, h]
  · rw [zc_up_n (by omega)]; simp [zc_nt, h]
  · rw [zc_up_n (by omega)]; simp [zc_nw, h]
  · rw [zc_up_n (by omega)]; simp [zc_nb, h]
  · rw [zc_up_n (by omega)]
theorem zc_e1 (ht : t < 3) (h : o (zc_pc c t) = 1) (hg : g (zc_pc c t) < 4) :
    zc_up (zc_up c (g (zc_pc c t)) (c (4 + t))) (7 + t) (zc_pl L t (c (7 + t) + 1)) = zc_step o g L c t := by
  refine zc_mk ht (fun j hj => ?_) (fun w hw => ?_) (fun w hw hn => ?_) ?_ (fun l hl => ?_) (fun w hw => ?_) ?_ (fun j hj => ?_)
  · by_cases e : j = g (zc_pc c t)
    · subst e; rw [zc_up_s]; simp [zc_nv, h]
    · rw [zc_up_n e]; simp [zc_nv, h, Ne.symm e]
  · rw [zc_up_n (by omega)]
    by_cases e : w = t
    · subst e; simp [zc_na, h]
    · rw [if_neg e]
  · rw [zc_up_n (by omega)]
  · simp [zc_np, h]
  · rw [zc_up_n (by omega)]; simp [zc_nt, h]
  · rw [zc_up_n (by omega)]; simp [zc_nw, h]
  · rw [zc_up_n (by omega)]; simp [zc_nb, h]
  · rw [zc_up_n (by omega)]
theorem zc_e2 (ht : t < 3) (h : o (zc_pc c t) = 2) (hg : g (zc_pc c t) < 4) :
    zc_up (zc_up (zc_up c (4 + t) (c (g (zc_pc c t)))) (g (zc_pc c t)) (c (4 + t))) (7 + t) (zc_pl L t (c (7 + t) + 1)) = zc_step o g L c t := by
  refine zc_mk ht (fun j hj => ?_) (fun w hw => ?_) (fun w hw hn => ?_) ?_ (fun l hl => ?_) (fun w hw => ?_) ?_ (fun j hj => ?_)
  · by_cases e : j = g (zc_pc c t)
    · subst e; rw [zc_up_s]; simp [zc_nv, h]
    · rw [zc_up_n e, zc_up_n (by omega)]; simp [zc_nv, h, Ne.symm e]
  · rw [zc_up_n (by omega)]
    by_cases e : w = t
    · subst e; rw [zc_up_s]; simp [zc_na, h]
    · rw [zc_up_n (by omega), if_neg e]
  · rw [zc_up_n (by omega), zc_up_n (by omega)]
  · simp [zc_np, h]
  · rw [zc_up_n (by omega), zc_up_n (by omega)]; simp [zc_nt, h]
  · rw [zc_up_n (by omega), zc_up_n (by omega)]; simp [zc_nw, h]
  · rw [zc_up_n (by omega), zc_up_n (by omega)]; simp [zc_nb, h]
  · rw [zc_up_n (by omega), zc_up_n (by omega)]
theorem zc_e3 (ht : t < 3) (h : o (zc_pc c t) = 3) (hg : g (zc_pc c t) < 4) :
    zc_up (zc_up c (g (zc_pc c t)) ((c (g (zc_pc c t)) + 1) % 8)) (7 + t) (zc_pl L t (c (7 + t) + 1)) = zc_step o g L c t := by
  refine zc_mk ht (fun j hj => ?_) (fun w hw => ?_) (fun w hw hn => ?_) ?_ (fun l hl => ?_) (fun w hw => ?_) ?_ (fun j hj => ?_)
  · by_cases e : j = g (zc_pc c t)
    · subst e; rw [zc_up_s]; simp [zc_nv, h]
    · rw [zc_up_n e]; simp [zc_nv, h, Ne.symm e]
  · rw [zc_up_n (by omega)]
    by_cases e : w = t
    · subst e; simp [zc_na, h]
    · rw [if_neg e]
  · rw [zc_up_n (by omega)]
  · simp [zc_np, h]
  · rw [zc_up_n (by omega)]; simp [zc_nt, h]
  · rw [zc_up_n (by omega)]; simp [zc_nw, h]
  · rw [zc_up_n (by omega)]; simp [zc_nb, h]
  · rw [zc_up_n (by omega)]
theorem zc_e4 (ht : t < 3) (h : o (zc_pc c t) = 4) :
    zc_up (zc_up c (4 + t) (g (zc_pc c t))) (7 + t) (zc_pl L t (c (7 + t) + 1)) = zc_step o g L c t := by
  refine zc_mk ht (fun j hj => ?_) (fun w hw => ?_) (fun w hw hn => ?_) ?_ (fun l hl => ?_) (fun w hw => ?_) ?_ (fun j hj => ?_)
  · rw [zc_up_n (by omega)]; simp [zc_nv, h]
  · by_cases e : w = t
    · subst e; rw [zc_up_s]; simp [zc_na, h]
    · rw [zc_up_n (by omega), if_neg e]
  · rw [zc_up_n (by omega)]
  · simp [zc_np, h]
  · rw [zc_up_n (by omega)]; simp [zc_nt, h]
  · rw [zc_up_n (by omega)]; simp [zc_nw, h]
  · rw [zc_up_n (by omega)]; simp [zc_nb, h]
  · rw [zc_up_n (by omega)]
theorem zc_e5 (ht : t < 3) (h : o (zc_pc c t) = 5) :
    zc_up (zc_up c (4 + t) ((c (4 + t) + g (zc_pc c t)) % 8)) (7 + t) (zc_pl L t (c (7 + t) + 1)) = zc_step o g L c t := by
  refine zc_mk ht (fun j hj => ?_) (fun w hw => ?_) (fun w hw hn => ?_) ?_ (fun l hl => ?_) (fun w hw => ?_) ?_ (fun j hj => ?_)
  · rw [zc_up_n (by omega)]; simp [zc_nv, h]
  · by_cases e : w = t
    · subst e; rw [zc_up_s]; simp [zc_na, h]
    · rw [zc_up_n (by omega), if_neg e]
  · rw [zc_up_n (by omega)]
  · simp [zc_np, h]
  · rw [zc_up_n (by omega)]; simp [zc_nt, h]
  · rw [zc_up_n (by omega)]; simp [zc_nw, h]
  · rw [zc_up_n (by omega)]; simp [zc_nb, h]
  · rw [zc_up_n (by omega)]
/-- the steps that change the place alone -/
theorem zc_ep (ht : t < 3) {p : Nat} (hp : p = zc_np o g L c t) (h1 : 6 ≤ o (zc_pc c t)) (ht' : ∀ l, l < 2 → zc_nt o g c t l = c (10 + l))
    (hw : ∀ w, w < 3 → zc_nw o g c t w = c (12 + w)) (hb : zc_nb o g c t = c 15) : zc_up c (7 + t) p = zc_step o g L c t := by
  refine zc_mk ht (fun j hj => ?_) (fun w hw => ?_) (fun w hw hn => rfl) hp (fun l hl => (ht' l hl).symm) (fun w h => (hw w h).symm) hb.symm (fun j hj => rfl)
  · have a1 : ¬ o (zc_pc c t) = 1 := by omega
    have a2 : ¬ o (zc_pc c t) = 2 := by omega
    have a3 : ¬ o (zc_pc c t) = 3 := by omega
    simp [zc_nv, a1, a2, a3]
  · have a1 : ¬ o (zc_pc c t) = 0 := by omega
    have a2 : ¬ o (zc_pc c t) = 2 := by omega
    have a3 : ¬ o (zc_pc c t) = 4 := by omega
    have a4 : ¬ o (zc_pc c t) = 5 := by omega
    by_cases e : w = t
    · subst e; simp [zc_na, a1, a2, a3, a4]
    · rw [if_neg e]
theorem zc_e6a (ht : t < 3) (h : o (zc_pc c t) = 6) (ha : c (4 + t) = 0) :
    zc_up c (7 + t) (zc_pl L t (c (7 + t) + 1 + g (zc_pc c t))) = zc_step o g L c t :=
  zc_ep ht (by simp [zc_np, h, ha]) (by omega) (fun l hl => by simp [zc_nt, h]) (fun w hw => by simp [zc_nw, h]) (by simp [zc_nb, h])
theorem zc_e6b (ht : t < 3) (h : o (zc_pc c t) = 6) (ha : c (4 + t) ≠ 0) :
    zc_up c (7 + t) (zc_pl L t (c (7 + t) + 1)) = zc_step o g L c t :=
  zc_ep ht (by simp [zc_np, h, ha]) (by omega) (fun l hl => by simp [zc_nt, h]) (fun w hw => by simp [zc_nw, h]) (by simp [zc_nb, h])
theorem zc_e8b (ht : t < 3) (h : o (zc_pc c t) = 8) (ha : c (10 + g (zc_pc c t)) ≠ t + 1) :
    zc_up c (7 + t) (zc_pl L t (c (7 + t) + 1)) = zc_step o g L c t :=
  zc_ep ht (by simp [zc_np, h]) (by omega) (fun l hl => by
    unfold zc_nt
    by_cases e : g (zc_pc c t) = l
    · subst e; simp [h, ha]
    · simp [e]) (fun w hw => by simp [zc_nw, h]) (by simp [zc_nb, h])
theorem zc_e9b (ht : t < 3) (h : o (zc_pc c t) = 9) (ha : c (4 + t) = g (zc_pc c t)) :
    zc_up c (7 + t) (zc_pl L t (c (7 + t) + 1)) = zc_step o g L c t :=
  zc_ep ht (by simp [zc_np, h]) (by omega) (fun l hl => by simp [zc_nt, h]) (fun w hw => by simp [zc_nw, h]) (by simp [zc_nb, h, ha])
theorem zc_e10b (ht : t < 3) (h : o (zc_pc c t) = 10) (ha : c (12 + t) ≠ 2) (hb : c (10 + g (zc_pc c t)) ≠ t + 1) :
    zc_up c (7 + t) (zc_pl L t (c (7 + t) + 1)) = zc_step o g L c t :=
  zc_ep ht (by simp [zc_np, h, hb]) (by omega) (fun l hl => by
    unfold zc_nt
    by_cases e : g (zc_pc c t) = l
    · subst e; simp [h, ha, hb]
    · simp [e]) (fun w hw => by
    by_cases e : w = t
    · subst e; simp [zc_nw, h, ha, hb]
    · simp [zc_nw, h, e]) (by simp [zc_nb, h])
theorem zc_e7 (ht : t < 3) (h : o (zc_pc c t) = 7) (hg : g (zc_pc c t) < 2) :
    zc_up (zc_up c (10 + g (zc_pc c t)) (t + 1)) (7 + t) (zc_pl L t (c (7 + t) + 1)) = zc_step o g L c t := by
  refine zc_mk ht (fun j hj => ?_) (fun w hw => ?_) (fun w hw hn => ?_) ?_ (fun l hl => ?_) (fun w hw => ?_) ?_ (fun j hj => ?_)
  · rw [zc_up_n (by omega)]; simp [zc_nv, h]
  · rw [zc_up_n (by omega)]
    by_cases e : w = t
    · subst e; simp [zc_na, h]
    · rw [if_neg e]
  · rw [zc_up_n (by omega)]
  · simp [zc_np, h]
  · by_cases e : l = g (zc_pc c t)
    · subst e; rw [zc_up_s]; simp [zc_nt, h]
    · rw [zc_up_n (by omega)]; simp [zc_nt, h, Ne.symm e]
  · rw [zc_up_n (by omega)]; simp [zc_nw, h]
  · rw [zc_up_n (by omega)]; simp [zc_nb, h]
  · rw [zc_up_n (by omega)]
theorem zc_e8a (ht : t < 3) (h : o (zc_pc c t) = 8) (hg : g (zc_pc c t) < 2) (ha : c (10 + g (zc_pc c t)) = t + 1) :
    zc_up (zc_up c (10 + g (zc_pc c t)) 0) (7 + t) (zc_pl L t (c (7 + t) + 1)) = zc_step o g L c t := by
  refine zc_mk ht (fun j hj => ?_) (fun w hw => ?_) (fun w hw hn => ?_) ?_ (fun l hl => ?_) (fun w hw => ?_) ?_ (fun j hj => ?_)
  · rw [zc_up_n (by omega)]; simp [zc_nv, h]
  · rw [zc_up_n (by omega)]
    by_cases e : w = t
    · subst e; simp [zc_na, h]
    · rw [if_neg e]
  · rw [zc_up_n (by omega)]
  · simp [zc_np, h]
  · by_cases e : l = g (zc_pc c t)
    · subst e; rw [zc_up_s]; simp [zc_nt, h, ha]
    · rw [zc_up_n (by omega)]; simp [zc_nt, h, Ne.symm e]
  · rw [zc_up_n (by omega)]; simp [zc_nw, h]
  · rw [zc_up_n (by omega)]; simp [zc_nb, h]
  · rw [zc_up_n (by omega)]
theorem zc_e9a (ht : t < 3) (h : o (zc_pc c t) = 9) (ha : c (4 + t) ≠ g (zc_pc c t)) :
    zc_up (zc_up c 15 1) (7 + t) (zc_pl L t (c (7 + t) + 1)) = zc_step o g L c t := by
  refine zc_mk ht (fun j hj => ?_) (fun w hw => ?_) (fun w hw hn => ?_) ?_ (fun l hl => ?_) (fun w hw => ?_) ?_ (fun j hj => ?_)
  · rw [zc_up_n (by omega)]; simp [zc_nv, h]
  · rw [zc_up_n (by omega)]
    by_cases e : w = t
    · subst e; simp [zc_na, h]
    · rw [if_neg e]
  · rw [zc_up_n (by omega)]
  · simp [zc_np, h]
  · rw [zc_up_n (by omega)]; simp [zc_nt, h]
  · rw [zc_up_n (by omega)]; simp [zc_nw, h]
  · rw [zc_up_s]; simp [zc_nb, h, ha]
  · rw [zc_up_n (by omega)]
theorem zc_e10a (ht : t < 3) (h : o (zc_pc c t) = 10) (hg : g (zc_pc c t) < 2) (ha : c (12 + t) = 2) :
    zc_up (zc_up (zc_up c (12 + t) 0) (10 + g (zc_pc c t)) (t + 1)) (7 + t) (zc_pl L t (c (7 + t) + 1)) = zc_step o g L c t := by
  refine zc_mk ht (fun j hj => ?_) (fun w hw => ?_) (fun w hw hn => ?_) ?_ (fun l hl => ?_) (fun w hw => ?_) ?_ (fun j hj => ?_)
  · rw [zc_up_n (by omega), zc_up_n (by omega)]; simp [zc_nv, h]
  · rw [zc_up_n (by omega), zc_up_n (by omega)]
    by_cases e : w = t
    · subst e; simp [zc_na, h]
    · rw [if_neg e]
  · rw [zc_up_n (by omega), zc_up_n (by omega)]
  · simp [zc_np, h, ha]
  · by_cases e : l = g (zc_pc c t)
    · subst e; rw [zc_up_s]; simp [zc_nt, h, ha]
    · rw [zc_up_n (by omega), zc_up_n (by omega)]; simp [zc_nt, h, Ne.symm e]
  · rw [zc_up_n (by omega)]
    by_cases e : w = t
    · subst e; rw [zc_up_s]; simp [zc_nw, h, ha]
    · rw [zc_up_n (by omega)]; simp [zc_nw, h, e]
  · rw [zc_up_n (by omega), zc_up_n (by omega)]; simp [zc_nb, h]
  · rw [zc_up_n (by omega), zc_up_n (by omega)]
theorem zc_e10c (ht : t < 3) (h : o (zc_pc c t) = 10) (hg : g (zc_pc c t) < 2) (ha : c (12 + t) ≠ 2) (hb : c (10 + g (zc_pc c t)) = t + 1) :
    zc_up (zc_up (zc_up c (10 + g (zc_pc c t)) 0) (12 + t) 1) (7 + t) (c (7 + t)) = zc_step o g L c t := by
  refine zc_mk ht (fun j hj => ?_) (fun w hw => ?_) (fun w hw hn => ?_) ?_ (fun l hl => ?_) (fun w hw => ?_) ?_ (fun j hj => ?_)
  · rw [zc_up_n (by omega), zc_up_n (by omega)]; simp [zc_nv, h]
  · rw [zc_up_n (by omega), zc_up_n (by omega)]
    by_cases e : w = t
    · subst e; simp [zc_na, h]
    · rw [if_neg e]
  · rw [zc_up_n (by omega), zc_up_n (by omega)]
  · simp [zc_np, h, ha, hb]
  · rw [zc_up_n (by omega)]
    by_cases e : l = g (zc_pc c t)
    · subst e; rw [zc_up_s]; simp [zc_nt, h, ha, hb]
    · rw [zc_up_n (by omega)]; simp [zc_nt, h, Ne.symm e]
  · by_cases e : w = t
    · subst e; rw [zc_up_s]; simp [zc_nw, h, ha, hb]
    · rw [zc_up_n (by omega), zc_up_n (by omega)]; simp [zc_nw, h, e]
  · rw [zc_up_n (by omega), zc_up_n (by omega)]; simp [zc_nb, h]
  · rw [zc_up_n (by omega), zc_up_n (by omega)]
theorem zc_e11 (ht : t < 3) (h : o (zc_pc c t) = 11) :
    zc_up (zc_nf g c (g (zc_pc c t)) 3) (7 + t) (zc_pl L t (c (7 + t) + 1)) = zc_step o g L c t := by
  have hn : ∀ j, ¬ (12 ≤ j ∧ j < 15) → zc_nf g c (g (zc_pc c t)) 3 j = c j := by
    intro j hj
    unfold zc_nf
    rw [if_neg (by omega)]
  refine zc_mk ht (fun j hj => ?_) (fun w hw => ?_) (fun w hw hn' => ?_) ?_ (fun l hl => ?_) (fun w hw => ?_) ?_ (fun j hj => ?_)
  · rw [hn _ (by omega)]; simp [zc_nv, h]
  · rw [hn _ (by omega)]
    by_cases e : w = t
    · subst e; simp [zc_na, h]
    · rw [if_neg e]
  · rw [hn _ (by omega)]
  · simp [zc_np, h]
  · rw [hn _ (by omega)]; simp [zc_nt, h]
  · have e1 : 12 + w - 12 = w := by omega
    have e2 : 12 + w < 12 + 3 := by omega
    unfold zc_nf zc_nw
    rw [if_neg (c := w = t ∧ _) (by omega), e1]
    by_cases e : c (12 + w) = 1 ∧ g (zc_pc c w) = g (zc_pc c t)
    · rw [if_pos ⟨by omega, e2, e⟩, if_pos ⟨h, e⟩]
    · rw [if_neg (fun a => e a.2.2), if_neg (fun a => e a.2)]
  · rw [hn _ (by omega)]; simp [zc_nb, h]
  · rw [hn _ (by omega)]
theorem zc_nf_0 {a : Nat} : zc_nf g c a 0 = c := by
  funext j; unfold zc_nf; rw [if_neg (by omega)]
theorem zc_nf_y {a n : Nat} (h1 : c (12 + n) = 1) (h2 : g (zc_pc c n) = a) : zc_nf g c a (n + 1) = zc_up (zc_nf g c a n) (12 + n) 2 := by
  funext j
  by_cases e : j = 12 + n
  · subst e
    have e1 : 12 + n - 12 = n := by omega
    rw [zc_up_s]; unfold zc_nf; rw [e1, if_pos ⟨by omega, by omega, h1, h2⟩]
  · rw [zc_up_n e]; unfold zc_nf
    by_cases e2 : 12 ≤ j ∧ j < 12 + n ∧ c j = 1 ∧ g (zc_pc c (j - 12)) = a
    · rw [if_pos e2, if_pos ⟨e2.1, by omega, e2.2.2⟩]
    · rw [if_neg e2, if_neg (fun x => e2 ⟨x.1, by omega, x.2.2⟩)]
theorem zc_nf_n {a n : Nat} (h : ¬ (c (12 + n) = 1 ∧ g (zc_pc c n) = a)) : zc_nf g c a (n + 1) = zc_nf g c a n := by
  funext j
  by_cases e : j = 12 + n
  · subst e
    have e1 : 12 + n - 12 = n := by omega
    unfold zc_nf; rw [e1, if_neg (fun x => h x.2.2), if_neg (by omega)]
  · unfold zc_nf
    by_cases e2 : 12 ≤ j ∧ j < 12 + n ∧ c j = 1 ∧ g (zc_pc c (j - 12)) = a
    · rw [if_pos e2, if_pos ⟨e2.1, by omega, e2.2.2⟩]
    · rw [if_neg e2, if_neg (fun x => e2 ⟨x.1, by omega, x.2.2⟩)]
theorem zc_nf_at {a n : Nat} : zc_nf g c a n (12 + n) = c (12 + n) := by
  unfold zc_nf; rw [if_neg (by omega)]
theorem zc_nf_lo {a n j : Nat} (h : j < 12) : zc_nf g c a n j = c j := by
  unfold zc_nf; rw [if_neg (by omega)]
end
