/-! the pure state (cells 0..3 variables, 4..6 accumulators, 7..9 places, 10..11 takers, 12..14 waiters, 15 bad), readiness, step -/
section
variable (o g L : Nat → Nat)
def zc_up (c : Nat → Nat) (k v : Nat) : Nat → Nat := fun j => if j = k then v else c j
def zc_pl (t n : Nat) : Nat := if n < L t then n else 5
def zc_pc (c : Nat → Nat) (t : Nat) : Nat := 5 * t + c (7 + t)
def zc_R (c : Nat → Nat) (t : Nat) : Prop :=
  c (7 + t) < L t ∧ c (12 + t) ≠ 1 ∧ ((o (zc_pc c t) = 7 ∨ c (12 + t) = 2) → c (10 + g (zc_pc c t)) = 0)
def zc_np (c : Nat → Nat) (t : Nat) : Nat :=
  if o (zc_pc c t) = 6 ∧ c (4 + t) = 0 then zc_pl L t (c (7 + t) + 1 + g (zc_pc c t))
  else if o (zc_pc c t) = 10 ∧ c (12 + t) ≠ 2 ∧ c (10 + g (zc_pc c t)) = t + 1 then c (7 + t)
  else zc_pl L t (c (7 + t) + 1)
def zc_na (c : Nat → Nat) (t : Nat) : Nat :=
  if o (zc_pc c t) = 0 ∨ o (zc_pc c t) = 2 then c (g (zc_pc c t))
  else if o (zc_pc c t) = 4 then g (zc_pc c t)
  else if o (zc_pc c t) = 5 then (c (4 + t) + g (zc_pc c t)) % 8
  else c (4 + t)
def zc_nv (c : Nat → Nat) (t j : Nat) : Nat :=
  if (o (zc_pc c t) = 1 ∨ o (zc_pc c t) = 2) ∧ g (zc_pc c t) = j then c (4 + t)
  else if o (zc_pc c t) = 3 ∧ g (zc_pc c t) = j then (c j + 1) % 8
  else c j
def zc_nt (c : Nat → Nat) (t l : Nat) : Nat :=
  if g (zc_pc c t) = l then
    (if o (zc_pc c t) = 7 then t + 1
     else if o (zc_pc c t) = 8 ∧ c (10 + l) = t + 1 then 0
     else if o (zc_pc c t) = 10 then (if c (12 + t) = 2 then t + 1 else if c (10 + l) = t + 1 then 0 else c (10 + l))
     else c (10 + l))
  else c (10 + l)
def zc_nw (c : Nat → Nat) (t w : Nat) : Nat :=
  if w = t ∧ o (zc_pc c t) = 10 then
    (if c (12 + t) = 2 then 0 else if c (10 + g (zc_pc c t)) = t + 1 then 1 else c (12 + t))
  else if o (zc_pc c t) = 11 ∧ c (12 + w) = 1 ∧ g (zc_pc c w) = g (zc_pc c t) then 2
  else c (12 + w)
def zc_nb (c : Nat → Nat) (t : Nat) : Nat :=
  if o (zc_pc c t) = 9 ∧ c (4 + t) ≠ g (zc_pc c t) then 1 else c 15
def zc_step (c : Nat → Nat) (t : Nat) : Nat → Nat := fun j =>
  if j < 4 then zc_nv o g c t j
  else if j < 7 then (if j = 4 + t then zc_na o g c t else c j)
  else if j < 10 then (if j = 7 + t then zc_np o g L c t else c j)
  else if j < 12 then zc_nt o g c t (j - 10)
  else if j < 15 then zc_nw o g c t (j - 12)
  else if j = 15 then zc_nb o g c t
  else c j
/-- what the document calls an instruction: a code and its number -/
def zc_G (op a : Nat) : Prop :=
  op ≤ 11 ∧ a < 8 ∧ (op < 4 → a < 4) ∧ ((op = 7 ∨ op = 8 ∨ op = 10 ∨ op = 11) → a < 2) ∧ (op = 6 → 1 ≤ a ∧ a ≤ 3)
def zc_K : Prop := ∀ t, t < 3 → L t ≤ 5 ∧ ∀ p, p < L t → zc_G (o (5 * t + p)) (g (5 * t + p))
/-- the states that can be -/
def zc_V (c : Nat → Nat) : Prop :=
  (∀ j, j < 7 → c j < 8) ∧
  (∀ t, t < 3 → c (7 + t) < L t ∨ c (7 + t) = 5) ∧
  (∀ l, l < 2 → c (10 + l) < 4) ∧
  (∀ t, t < 3 → c (12 + t) = 0 ∨ ((c (12 + t) = 1 ∨ c (12 + t) = 2) ∧ c (7 + t) < L t ∧ o (zc_pc c t) = 10)) ∧
  c 15 < 2 ∧ (∀ j, 16 ≤ j → c j = 0)
/-- the instructions at two numbers of the code touch -/
def zc_T (k m : Nat) : Prop :=
  g k = g m ∧ (((o k = 7 ∨ o k = 8 ∨ o k = 10 ∨ o k = 11) ∧ (o m = 7 ∨ o m = 8 ∨ o m = 10 ∨ o m = 11)) ∨
    (o k < 4 ∧ o m < 4 ∧ (o k ≠ 0 ∨ o m ≠ 0)))
/-- how far a thread has come: at most 10 -/
def zc_psi (c : Nat → Nat) (t : Nat) : Nat := 2 * c (7 + t) + (if c (12 + t) = 0 then 0 else 1)
end

section
variable {o g L : Nat → Nat} {c : Nat → Nat} {t u : Nat}
theorem zc_up_s {k v : Nat} : zc_up c k v k = v := by simp [zc_up]
theorem zc_up_n {k v j : Nat} (h : j ≠ k) : zc_up c k v j = c j := by simp [zc_up, h]
theorem zc_T_sym {k m : Nat} (h : zc_T o g k m) : zc_T o g m k := by
  refine ⟨h.1.symm, ?_⟩
  rcases h.2 with h | h
  · exact Or.inl ⟨h.2, h.1⟩
  · exact Or.inr ⟨h.2.1, h.1, h.2.2.symm⟩
theorem zc_sv {j : Nat} (h : j < 4) : zc_step o g L c t j = zc_nv o g c t j := by simp [zc_step, h]
theorem zc_sa (hu : u < 3) : zc_step o g L c t (4 + u) = if u = t then zc_na o g c t else c (4 + u) := by
  have h1 : ¬ 4 + u < 4 := by omega
  have h2 : 4 + u < 7 := by omega
  by_cases h : u = t
  · subst h; simp [zc_step, h1, h2]
  · have h3 : ¬ 4 + u = 4 + t := by omega
    simp [zc_step, h1, h2, h, h3]
theorem zc_sp (hu : u < 3) : zc_step o g L c t (7 + u) = if u = t then zc_np o g L c t else c (7 + u) := by
  have h1 : ¬ 7 + u < 4 := by omega
  have h2 : ¬ 7 + u < 7 := by omega
  have h4 : 7 + u < 10 := by omega
  by_cases h : u = t
  · subst h; simp [zc_step, h1, h2, h4]
  · have h3 : ¬ 7 + u = 7 + t := by omega
    simp [zc_step, h1, h2, h, h3, h4]
theorem zc_st {l : Nat} (hl : l < 2) : zc_step o g L c t (10 + l) = zc_nt o g c t l := by
  have h1 : ¬ 10 + l < 4 := by omega
  have h2 : ¬ 10 + l < 7 := by omega
  have h3 : ¬ 10 + l < 10 := by omega
  have h4 : 10 + l < 12 := by omega
  have h5 : 10 + l - 10 = l := by omega
  simp [zc_step, h1, h2, h3, h4, h5]
theorem zc_sw {w : Nat} (hw : w < 3) : zc_step o g L c t (12 + w) = zc_nw o g c t w := by
  have h1 : ¬ 12 + w < 4 := by omega
  have h2 : ¬ 12 + w < 7 := by omega
  have h3 : ¬ 12 + w < 10 := by omega
  have h4 : ¬ 12 + w < 12 := by omega
  have h6 : 12 + w < 15 := by omega
  have h5 : 12 + w - 12 = w := by omega
  simp [zc_step, h1, h2, h3, h4, h5, h6]
theorem zc_sb : zc_step o g L c t 15 = zc_nb o g c t := by simp [zc_step]
theorem zc_sz {j : Nat} (h : 16 ≤ j) : zc_step o g L c t j = c j := by
  have h1 : ¬ j < 4 := by omega
  have h2 : ¬ j < 7 := by omega
  have h3 : ¬ j < 10 := by omega
  have h4 : ¬ j < 12 := by omega
  have h6 : ¬ j < 15 := by omega
  have h5 : ¬ j = 15 := by omega
  simp [zc_step, h1, h2, h3, h4, h5, h6]
/-- two states are one if they agree at every cell -/
theorem zc_ext {d : Nat → Nat} (hv : ∀ j, j < 4 → c j = d j) (ha : ∀ t, t < 3 → c (4 + t) = d (4 + t))
    (hp : ∀ t, t < 3 → c (7 + t) = d (7 + t)) (ht : ∀ l, l < 2 → c (10 + l) = d (10 + l))
    (hw : ∀ t, t < 3 → c (12 + t) = d (12 + t)) (hb : c 15 = d 15) (hz : ∀ j, 16 ≤ j → c j = d j) : c = d := by
  funext j
  by_cases h1 : j < 4
  · exact hv j h1
  by_cases h2 : j < 7
  · have e : j = 4 + (j - 4) := by omega
    rw [e]; exact ha _ (by omega)
  by_cases h3 : j < 10
  · have e : j = 7 + (j - 7) := by omega
    rw [e]; exact hp _ (by omega)
  by_cases h4 : j < 12
  · have e : j = 10 + (j - 10) := by omega
    rw [e]; exact ht _ (by omega)
  by_cases h5 : j < 15
  · have e : j = 12 + (j - 12) := by omega
    rw [e]; exact hw _ (by omega)
  by_cases h6 : j = 15
  · rw [h6]; exact hb
  · exact hz j (by omega)
theorem zc_pl_v (n : Nat) : zc_pl L t n < L t ∨ zc_pl L t n = 5 := by
  unfold zc_pl; split
  · exact Or.inl ‹_›
  · exact Or.inr rfl
theorem zc_pl_ge {n : Nat} (hL : L t ≤ 5) (hn : n ≤ 5) : n ≤ zc_pl L t n := by
  unfold zc_pl; split <;> omega
theorem zc_pl_ge' {n p : Nat} (hL : L t ≤ 5) (hp : p < L t) (hn : p + 1 ≤ n) : p + 1 ≤ zc_pl L t n := by
  unfold zc_pl; split <;> omega
theorem zc_R_G (hK : zc_K o g L) (ht : t < 3) (hR : zc_R o g L c t) : zc_G (o (zc_pc c t)) (g (zc_pc c t)) :=
  (hK t ht).2 _ hR.1
theorem zc_np_v (hR : zc_R o g L c t) : zc_np o g L c t < L t ∨ zc_np o g L c t = 5 := by
  unfold zc_np
  split
  · exact zc_pl_v _
  · split
    · exact Or.inl hR.1
    · exact zc_pl_v _
theorem zc_na_lt (hK : zc_K o g L) (hV : zc_V o L c) (ht : t < 3) (hR : zc_R o g L c t) : zc_na o g c t < 8 := by
  have hG := zc_R_G hK ht hR
  unfold zc_na
  split
  · rename_i h
    have : g (zc_pc c t) < 4 := hG.2.2.1 (by omega)
    exact hV.1 _ (by omega)
  · split
    · exact hG.2.1
    · split
      · omega
      · exact hV.1 _ (by omega)
theorem zc_nv_lt (hV : zc_V o L c) (ht : t < 3) {j : Nat} (hj : j < 4) : zc_nv o g c t j < 8 := by
  unfold zc_nv
  split
  · exact hV.1 _ (by omega)
  · split
    · omega
    · exact hV.1 _ (by omega)
theorem zc_nt_lt (hV : zc_V o L c) (ht : t < 3) {l : Nat} (hl : l < 2) : zc_nt o g c t l < 4 := by
  have h := hV.2.2.1 l hl
  unfold zc_nt
  repeat' split
  all_goals omega
/-- a step keeps the states that can be -/
theorem zc_V_step (hK : zc_K o g L) (hV : zc_V o L c) (ht : t < 3) (hR : zc_R o g L c t) : zc_V o L (zc_step o g L c t) := by
  refine ⟨fun j hj => ?_, fun u hu => ?_, fun l hl => ?_, fun u hu => ?_, ?_, fun j hj => ?_⟩
  · by_cases h : j < 4
    · rw [zc_sv h]; exact zc_nv_lt hV ht h
    · have e : j = 4 + (j - 4) := by omega
      rw [e, zc_sa (by omega)]
      split
      · exact zc_na_lt hK hV ht hR
      · exact hV.1 _ (by omega)
  · rw [zc_sp hu]
    split
    · rename_i h; rw [h]; exact zc_np_v hR
    · exact hV.2.1 u hu
  · rw [zc_st hl]; exact zc_nt_lt hV ht hl
  · unfold zc_pc
    rw [zc_sw hu, zc_sp hu]
    have hw := hV.2.2.2.1 u hu
    by_cases e : u = t
    · subst e
      rw [if_pos rfl]
      by_cases h10 : o (zc_pc c u) = 10
      · by_cases h2 : c (12 + u) = 2
        · left; simp [zc_nw, h10, h2]
        · by_cases h3 : c (10 + g (zc_pc c u)) = u + 1
          · right
            have e1 : zc_nw o g c u u = 1 := by simp [zc_nw, h10, h2, h3]
            have e2 : zc_np o g L c u = c (7 + u) := by simp [zc_np, h10, h2, h3]
            rw [e1, e2]
            exact ⟨Or.inl rfl, hR.1, h10⟩
          · left
            have e1 : zc_nw o g c u u = c (12 + u) := by simp [zc_nw, h10, h2, h3]
            rw [e1]
            have := hR.2.1
            omega
      · left
        have h0 : c (12 + u) = 0 := by
          rcases hw with h | h
          · exact h
          · exact absurd h.2.2 h10
        have e1 : zc_nw o g c u u = 0 := by simp [zc_nw, h10, h0]
        exact e1
    · rw [if_neg e]
      have e1 : zc_nw o g c t u = 2 ∧ c (12 + u) = 1 ∨ zc_nw o g c t u = c (12 + u) := by
        unfold zc_nw
        rw [if_neg (fun h => e h.1)]
        split
        · rename_i h; exact Or.inl ⟨rfl, h.2.1⟩
        · exact Or.inr rfl
      rcases e1 with ⟨e1, e2⟩ | e1
      · rw [e1]
        right
        rcases hw with h | h
        · omega
        · exact ⟨Or.inr rfl, h.2⟩
      · rw [e1]; exact hw
  · rw [zc_sb]
    unfold zc_nb
    split
    · omega
    · exact hV.2.2.2.2.1
  · rw [zc_sz hj]; exact hV.2.2.2.2.2 j hj
theorem zc_psi_le (hK : zc_K o g L) (hV : zc_V o L c) (ht : t < 3) : zc_psi c t ≤ 10 := by
  have h1 := (hK t ht).1
  have h2 := hV.2.1 t ht
  have h3 := hV.2.2.2.1 t ht
  unfold zc_psi
  split <;> omega
theorem zc_psi_o (hu : u < 3) (hn : u ≠ t) : zc_psi (zc_step o g L c t) u = zc_psi c u := by
  unfold zc_psi
  rw [zc_sp hu, zc_sw hu, if_neg hn]
  have e1 : zc_nw o g c t u = 2 ∧ c (12 + u) = 1 ∨ zc_nw o g c t u = c (12 + u) := by
    unfold zc_nw
    rw [if_neg (fun h => hn h.1)]
    split
    · rename_i h; exact Or.inl ⟨rfl, h.2.1⟩
    · exact Or.inr rfl
  rcases e1 with ⟨e1, e2⟩ | e1
  · simp [e1, e2]
  · rw [e1]
theorem zc_psi_s (hK : zc_K o g L) (hV : zc_V o L c) (ht : t < 3) (hR : zc_R o g L c t) : zc_psi c t + 1 ≤ zc_psi (zc_step o g L c t) t := by
  have hL := (hK t ht).1
  have hp := hR.1
  have hw := hV.2.2.2.1 t ht
  have h1 := hR.2.1
  unfold zc_psi
  rw [zc_sp ht, zc_sw ht, if_pos rfl]
  by_cases h10 : o (zc_pc c t) = 10
  · by_cases h2 : c (12 + t) = 2
    · have e2 : zc_np o g L c t = zc_pl L t (c (7 + t) + 1) := by simp [zc_np, h10, h2]
      have := zc_pl_ge' (n := c (7 + t) + 1) hL hp (Nat.le_refl _)
      rw [e2]
      split <;> split <;> omega
    · by_cases h3 : c (10 + g (zc_pc c t)) = t + 1
      · have e1 : zc_nw o g c t t = 1 := by simp [zc_nw, h10, h2, h3]
        have e2 : zc_np o g L c t = c (7 + t) := by simp [zc_np, h10, h2, h3]
        have h0 : c (12 + t) = 0 := by omega
        simp [e1, e2, h0]
      · have e2 : zc_np o g L c t = zc_pl L t (c (7 + t) + 1) := by simp [zc_np, h10, h3]
        have := zc_pl_ge' (n := c (7 + t) + 1) hL hp (Nat.le_refl _)
        rw [e2]
        split <;> split <;> omega
  · have e2 : c (7 + t) + 1 ≤ zc_np o g L c t := by
      unfold zc_np
      split
      · exact zc_pl_ge' hL hp (by omega)
      · rw [if_neg (fun h => h10 h.1)]
        exact zc_pl_ge' hL hp (Nat.le_refl _)
    split <;> split <;> omega
/-- all that a thread has done -/
theorem zc_psi_all (hK : zc_K o g L) (hV : zc_V o L c) (ht : t < 3) (hR : zc_R o g L c t) :
    zc_psi c 0 + zc_psi c 1 + zc_psi c 2 + 1 ≤ zc_psi (zc_step o g L c t) 0 + zc_psi (zc_step o g L c t) 1 + zc_psi (zc_step o g L c t) 2 := by
  have hs := zc_psi_s hK hV ht hR
  have ho : ∀ u, u < 3 → u ≠ t → zc_psi (zc_step o g L c t) u = zc_psi c u := fun u hu hn => zc_psi_o hu hn
  have h0 := ho 0 (by omega)
  have h1 := ho 1 (by omega)
  have h2 := ho 2 (by omega)
  have : t = 0 ∨ t = 1 ∨ t = 2 := by omega
  rcases this with e | e | e <;> subst e
  · have := h1 (by omega); have := h2 (by omega); omega
  · have := h0 (by omega); have := h2 (by omega); omega
  · have := h0 (by omega); have := h1 (by omega); omega
end
