/-! a table with open slots: the state is found, or the first free slot on its way -/
def zh_c (q : Nat → Nat) : Nat → Nat
  | 0 => 0
  | m + 1 => zh_c q m + (if q m = 0 then 0 else 1)
def zh_I (h : Int64 → Nat) (q : Nat → Nat) (s : Nat → Int64) (n : Nat) : Prop :=
  (∀ j, j < 4096 → q j ≤ n) ∧
  (∀ i, i < n → ∃ d, d < 4096 ∧ q ((h (s i) + d) % 4096) = i + 1 ∧ ∀ d', d' < d → q ((h (s i) + d') % 4096) ≠ 0) ∧
  zh_c q 4096 = n
theorem zh_c_all {q : Nat → Nat} : ∀ m, (∀ j, j < m → q j ≠ 0) → zh_c q m = m := by
  intro m
  induction m with
  | zero => intro _; rfl
  | succ m ih =>
    intro h
    show zh_c q m + (if q m = 0 then 0 else 1) = m + 1
    rw [ih fun j hj => h j (by omega), if_neg (h m (by omega))]
theorem zh_c_0 {q : Nat → Nat} : ∀ m, (∀ j, j < m → q j = 0) → zh_c q m = 0 := by
  intro m
  induction m with
  | zero => intro _; rfl
  | succ m ih =>
    intro h
    show zh_c q m + (if q m = 0 then 0 else 1) = 0
    rw [ih fun j hj => h j (by omega), if_pos (h m (by omega))]
theorem zh_c_up {q : Nat → Nat} {j v : Nat} (h0 : q j = 0) (hv : v ≠ 0) : ∀ m, zh_c (zc_up q j v) m = zh_c q m + (if j < m then 1 else 0) := by
  intro m
  induction m with
  | zero => rfl
  | succ m ih =>
    show zh_c (zc_up q j v) m + (if zc_up q j v m = 0 then 0 else 1) = zh_c q m + (if q m = 0 then 0 else 1) + (if j < m + 1 then 1 else 0)
    rw [ih]
    by_cases e : m = j
    · subst e
      rw [zc_up_s, if_neg hv, h0]
      simp
    · rw [zc_up_n e]
      by_cases e2 : j < m
      · rw [if_pos e2, if_pos (by omega : j < m + 1)]; omega
      · rw [if_neg e2, if_neg (by omega : ¬ j < m + 1)]; omega
theorem zh_free {h : Int64 → Nat} {q : Nat → Nat} {s : Nat → Int64} {n : Nat} (I : zh_I h q s n) (hn : n < 4096) (b : Nat) : ∃ d, d < 4096 ∧ q ((b + d) % 4096) = 0 := by
  have : ∃ z, z < 4096 ∧ q z = 0 := by
    refine Classical.byContradiction fun hh => ?_
    have := zh_c_all (q := q) 4096 fun j hj e => hh ⟨j, hj, e⟩
    rw [I.2.2] at this
    omega
  obtain ⟨z, hz, e⟩ := this
  refine ⟨(z + 4096 - b % 4096) % 4096, by omega, ?_⟩
  have : (b + (z + 4096 - b % 4096) % 4096) % 4096 = z := by omega
  rw [this]; exact e
theorem zh_least (P : Nat → Prop) (h : ∃ k, P k) : ∃ k, P k ∧ ∀ j, j < k → ¬ P j := by
  obtain ⟨k, hk⟩ := h
  induction k using Nat.strongRecOn with
  | ind k ih =>
    by_cases e : ∃ j, j < k ∧ P j
    · obtain ⟨j, hj, hp⟩ := e
      exact ih j hj hp
    · exact ⟨k, hk, fun j hj hp => e ⟨j, hj, hp⟩⟩
/-- where a search for x ends -/
theorem zh_find {h : Int64 → Nat} {q : Nat → Nat} {s : Nat → Int64} {n : Nat} (I : zh_I h q s n) (hn : n < 4096) (x : Int64) :
    ∃ d, d < 4096 ∧ (q ((h x + d) % 4096) = 0 ∨ s (q ((h x + d) % 4096) - 1) = x) ∧
      (∀ d', d' < d → q ((h x + d') % 4096) ≠ 0 ∧ s (q ((h x + d') % 4096) - 1) ≠ x) ∧
      ((q ((h x + d) % 4096) = 0 ∧ ∀ i, i < n → s i ≠ x) ∨
       (q ((h x + d) % 4096) ≠ 0 ∧ q ((h x + d) % 4096) ≤ n ∧ s (q ((h x + d) % 4096) - 1) = x)) := by
  obtain ⟨f, hf, hf0⟩ := zh_free I hn (h x)
  obtain ⟨d, h1, h2⟩ := zh_least (fun d => q ((h x + d) % 4096) = 0 ∨ s (q ((h x + d) % 4096) - 1) = x) ⟨f, Or.inl hf0⟩
  have hd : d < 4096 := by
    refine Classical.byContradiction fun hh => ?_
    exact h2 f (by omega) (Or.inl hf0)
  have h3 : ∀ d', d' < d → q ((h x + d') % 4096) ≠ 0 ∧ s (q ((h x + d') % 4096) - 1) ≠ x := fun d' hd' =>
    ⟨fun e => h2 d' hd' (Or.inl e), fun e => h2 d' hd' (Or.inr e)⟩
  refine ⟨d, hd, h1, h3, ?_⟩
  by_cases e : q ((h x + d) % 4096) = 0
  · left
    refine ⟨e, fun i hi hx => ?_⟩
    obtain ⟨d1, k1, k2, k3⟩ := I.2.1 i hi
    rw [hx] at k2 k3
    rcases Nat.lt_trichotomy d d1 with hl | hl | hl
    · exact k3 d hl e
    · rw [hl, k2] at e; omega
    · refine (h3 d1 hl).2 ?_
      rw [k2]
      exact hx
  · right
    exact ⟨e, I.1 _ (by omega), h1.resolve_left e⟩
theorem zh_put {h : Int64 → Nat} {q : Nat → Nat} {s : Nat → Int64} {n : Nat} (I : zh_I h q s n) (x : Int64) {d : Nat} (hd : d < 4096)
    (h0 : q ((h x + d) % 4096) = 0) (h1 : ∀ d', d' < d → q ((h x + d') % 4096) ≠ 0) {s' : Nat → Int64} (hs : ∀ i, i < n → s' i = s i) (hs' : s' n = x) :
    zh_I h (zc_up q ((h x + d) % 4096) (n + 1)) s' (n + 1) := by
  obtain ⟨i1, i2, i3⟩ := I
  refine ⟨fun j hj => ?_, fun i hi => ?_, ?_⟩
  · by_cases e : j = (h x + d) % 4096
    · rw [e, zc_up_s]; exact Nat.le_refl _
    · rw [zc_up_n e]; have := i1 j hj; omega
  · by_cases e : i = n
    · subst e
      rw [hs']
      refine ⟨d, hd, zc_up_s, fun d' hd' => ?_⟩
      by_cases e2 : (h x + d') % 4096 = (h x + d) % 4096
      · rw [e2, zc_up_s]; omega
      · rw [zc_up_n e2]; exact h1 d' hd'
    · rw [hs i (by omega)]
      obtain ⟨d1, k1, k2, k3⟩ := i2 i (by omega)
      refine ⟨d1, k1, ?_, fun d' hd' => ?_⟩
      · rw [zc_up_n (fun e2 => by rw [e2, h0] at k2; omega)]; exact k2
      · by_cases e2 : (h (s i) + d') % 4096 = (h x + d) % 4096
        · rw [e2, zc_up_s]; omega
        · rw [zc_up_n e2]; exact k3 d' hd'
  · rw [zh_c_up h0 (by omega), i3, if_pos (by omega)]
theorem zh_0 {h : Int64 → Nat} {q : Nat → Nat} {s : Nat → Int64} (hq : ∀ j, j < 4096 → q j = 0) : zh_I h q s 0 :=
  ⟨fun j hj => by rw [hq j hj]; exact Nat.le_refl _, fun i hi => by omega, zh_c_0 _ hq⟩
/-! the list of the states that can come, edge by edge -/
def zb_at (l : List (Nat → Nat)) (i : Nat) : Nat → Nat := l.getD i (fun _ => 0)
section
variable (o g L c0 : Nat → Nat)
noncomputable def zb_L : Nat → List (Nat → Nat)
  | 0 => [c0]
  | e + 1 => @ite _ (e / 3 < (zb_L e).length ∧ (zb_L e).length ≤ 1200 ∧ zc_R o g L (zb_at (zb_L e) (e / 3)) (e % 3) ∧
      zc_step o g L (zb_at (zb_L e) (e / 3)) (e % 3) ∉ zb_L e) (Classical.propDecidable _)
      (zb_L e ++ [zc_step o g L (zb_at (zb_L e) (e / 3)) (e % 3)]) (zb_L e)
end
section
variable {o g L c0 : Nat → Nat}
theorem zb_at_app {l m : List (Nat → Nat)} {i : Nat} (h : i < l.length) : zb_at (l ++ m) i = zb_at l i := by
  unfold zb_at
  rw [List.getD_eq_getElem?_getD, List.getD_eq_getElem?_getD, List.getElem?_append_left h]
theorem zb_at_new {l : List (Nat → Nat)} {x : Nat → Nat} : zb_at (l ++ [x]) l.length = x := by
  unfold zb_at
  rw [List.getD_eq_getElem?_getD, List.getElem?_append_right (Nat.le_refl _)]
  simp
theorem zb_at_mem {l : List (Nat → Nat)} {i : Nat} (h : i < l.length) : zb_at l i ∈ l := by
  unfold zb_at
  rw [List.getD_eq_getElem?_getD, List.getElem?_eq_getElem h]
  exact List.getElem_mem h
theorem zb_mem_at {l : List (Nat → Nat)} {x : Nat → Nat} (h : x ∈ l) : ∃ i, i < l.length ∧ zb_at l i = x := by
  obtain ⟨i, hi, e⟩ := List.mem_iff_getElem.mp h
  refine ⟨i, hi, ?_⟩
  unfold zb_at
  rw [List.getD_eq_getElem?_getD, List.getElem?_eq_getElem hi]
  exact e
theorem zb_pos {e : Nat} (h1 : e / 3 < (zb_L o g L c0 e).length) (h2 : (zb_L o g L c0 e).length ≤ 1200)
    (h3 : zc_R o g L (zb_at (zb_L o g L c0 e) (e / 3)) (e % 3)) (h4 : zc_step o g L (zb_at (zb_L o g L c0 e) (e / 3)) (e % 3) ∉ zb_L o g L c0 e) :
    zb_L o g L c0 (e + 1) = zb_L o g L c0 e ++ [zc_step o g L (zb_at (zb_L o g L c0 e) (e / 3)) (e % 3)] := by
  exact if_pos ⟨h1, h2, h3, h4⟩
theorem zb_neg {e : Nat} (h : ¬ (e / 3 < (zb_L o g L c0 e).length ∧ (zb_L o g L c0 e).length ≤ 1200 ∧ zc_R o g L (zb_at (zb_L o g L c0 e) (e / 3)) (e % 3) ∧
      zc_step o g L (zb_at (zb_L o g L c0 e) (e / 3)) (e % 3) ∉ zb_L o g L c0 e)) : zb_L o g L c0 (e + 1) = zb_L o g L c0 e := by
  exact if_neg h
theorem zb_cases (e : Nat) : zb_L o g L c0 (e + 1) = zb_L o g L c0 e ∨
    (e / 3 < (zb_L o g L c0 e).length ∧ (zb_L o g L c0 e).length ≤ 1200 ∧ zc_R o g L (zb_at (zb_L o g L c0 e) (e / 3)) (e % 3) ∧
      zc_step o g L (zb_at (zb_L o g L c0 e) (e / 3)) (e % 3) ∉ zb_L o g L c0 e ∧
      zb_L o g L c0 (e + 1) = zb_L o g L c0 e ++ [zc_step o g L (zb_at (zb_L o g L c0 e) (e / 3)) (e % 3)]) := by
  by_cases h : e / 3 < (zb_L o g L c0 e).length ∧ (zb_L o g L c0 e).length ≤ 1200 ∧ zc_R o g L (zb_at (zb_L o g L c0 e) (e / 3)) (e % 3) ∧
      zc_step o g L (zb_at (zb_L o g L c0 e) (e / 3)) (e % 3) ∉ zb_L o g L c0 e
  · exact Or.inr ⟨h.1, h.2.1, h.2.2.1, h.2.2.2, zb_pos h.1 h.2.1 h.2.2.1 h.2.2.2⟩
  · exact Or.inl (zb_neg h)
theorem zb_len (e : Nat) : 1 ≤ (zb_L o g L c0 e).length ∧ (zb_L o g L c0 e).length ≤ 1201 := by
  induction e with
  | zero => exact ⟨Nat.le_refl _, by show 1 ≤ 1201; omega⟩
  | succ e ih =>
    rcases zb_cases (o := o) (g := g) (L := L) (c0 := c0) e with h | ⟨h1, h2, h3, h4, h5⟩
    · rw [h]; exact ih
    · rw [h5]; simp; omega
theorem zb_V (hK : zc_K o g L) (hV : zc_V o L c0) (e : Nat) : ∀ x, x ∈ zb_L o g L c0 e → zc_V o L x := by
  induction e with
  | zero => intro x hx; rw [List.mem_singleton.mp hx]; exact hV
  | succ e ih =>
    rcases zb_cases (o := o) (g := g) (L := L) (c0 := c0) e with h | ⟨h1, h2, h3, h4, h5⟩
    · rw [h]; exact ih
    · rw [h5]
      intro x hx
      rcases List.mem_append.mp hx with hx | hx
      · exact ih x hx
      · rw [List.mem_singleton.mp hx]
        exact zc_V_step hK (ih _ (zb_at_mem h1)) (by omega) h3
theorem zb_nodup (e : Nat) : (zb_L o g L c0 e).Nodup := by
  induction e with
  | zero => exact List.nodup_cons.mpr ⟨by simp, List.nodup_nil⟩
  | succ e ih =>
    rcases zb_cases (o := o) (g := g) (L := L) (c0 := c0) e with h | ⟨h1, h2, h3, h4, h5⟩
    · rw [h]; exact ih
    · rw [h5, List.nodup_append]
      refine ⟨ih, List.nodup_cons.mpr ⟨by simp, List.nodup_nil⟩, ?_⟩
      intro a ha b hb e
      rw [List.mem_singleton.mp hb] at e
      exact h4 (e ▸ ha)
theorem zb_inj {l : List (Nat → Nat)} (hd : l.Nodup) {i j : Nat} (hi : i < l.length) (hj : j < l.length) (h : zb_at l i = zb_at l j) : i = j := by
  unfold zb_at at h
  rw [List.getD_eq_getElem?_getD, List.getD_eq_getElem?_getD, List.getElem?_eq_getElem hi, List.getElem?_eq_getElem hj] at h
  exact (List.getElem_inj hd).mp h
/-- where nothing more comes -/
theorem zb_stop {e : Nat} (h : (zb_L o g L c0 e).length ≤ e / 3 ∨ 1200 < (zb_L o g L c0 e).length) : ∀ k, zb_L o g L c0 (e + k) = zb_L o g L c0 e := by
  intro k
  induction k with
  | zero => rfl
  | succ k ih =>
    show zb_L o g L c0 (e + k + 1) = _
    rw [zb_neg, ih]
    rintro ⟨h1, h2, _⟩
    rw [ih] at h1 h2
    omega
noncomputable def zb_F (o g L c0 : Nat → Nat) : List (Nat → Nat) := zb_L o g L c0 3600
theorem zb_F_at {e : Nat} (he : e ≤ 3600) (h : (zb_L o g L c0 e).length ≤ e / 3 ∨ 1200 < (zb_L o g L c0 e).length) : zb_F o g L c0 = zb_L o g L c0 e := by
  have := zb_stop h (3600 - e)
  unfold zb_F
  have e1 : e + (3600 - e) = 3600 := by omega
  rwa [e1] at this
end
