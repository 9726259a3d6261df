/-! what the searches keep beside the list; sorted endings against marks -/
section
variable (o g L : Nat → Nat)
def zb_D (l : List (Nat → Nat)) (e : Nat) (key d : Nat → Nat) : Prop :=
  d 0 = 0 ∧
  (∀ i, 0 < i → i < l.length → key i / 3 < i ∧ key i < e ∧ d i = d (key i / 3) + 1 ∧ zc_R o g L (zb_at l (key i / 3)) (key i % 3) ∧
    zc_step o g L (zb_at l (key i / 3)) (key i % 3) = zb_at l i) ∧
  (∀ i j, 0 < i → i < j → j < l.length → key i < key j) ∧
  (l.length ≤ 1200 → ∀ i t, t < 3 → i < l.length → 3 * i + t < e → zc_R o g L (zb_at l i) t →
    ∃ m, m < l.length ∧ zb_at l m = zc_step o g L (zb_at l i) t ∧ (m = 0 ∨ key m ≤ 3 * i + t))
def zb_E (l : List (Nat → Nat)) (i t m : Nat) : Prop :=
  i < l.length ∧ t < 3 ∧ m < l.length ∧ zc_R o g L (zb_at l i) t ∧ zc_step o g L (zb_at l i) t = zb_at l m
def zb_N (l : List (Nat → Nat)) (e : Nat) (nx : Nat → Int32) : Prop :=
  l.length ≤ 1200 → ∀ i t, t < 3 → i < l.length → 3 * i + t < e →
    (¬ zc_R o g L (zb_at l i) t → nx (3 * i + t) = -1) ∧
    (zc_R o g L (zb_at l i) t → ∃ m, m < l.length ∧ nx (3 * i + t) = nI m ∧ zb_at l m = zc_step o g L (zb_at l i) t)
end
section
variable {o g L c0 : Nat → Nat} {key d : Nat → Nat} {e : Nat}
theorem zb_D_0 : zb_D o g L (zb_L o g L c0 0) 0 (fun _ => 0) (fun _ => 0) := by
  refine ⟨rfl, fun i h0 h1 => ?_, fun i j h0 h1 h2 => ?_, fun _ i t _ _ h => by omega⟩
  · have : i < 1 := h1
    omega
  · have : j < 1 := h2
    omega
theorem zb_D_same (D : zb_D o g L (zb_L o g L c0 e) e key d) (h1 : e / 3 < (zb_L o g L c0 e).length)
    (h : ¬ (zc_R o g L (zb_at (zb_L o g L c0 e) (e / 3)) (e % 3) ∧ (zb_L o g L c0 e).length ≤ 1200 ∧
      zc_step o g L (zb_at (zb_L o g L c0 e) (e / 3)) (e % 3) ∉ zb_L o g L c0 e)) :
    zb_L o g L c0 (e + 1) = zb_L o g L c0 e ∧ zb_D o g L (zb_L o g L c0 (e + 1)) (e + 1) key d := by
  have hl : zb_L o g L c0 (e + 1) = zb_L o g L c0 e := zb_neg fun ⟨_, a2, a3, a4⟩ => h ⟨a3, a2, a4⟩
  refine ⟨hl, ?_⟩
  rw [hl]
  obtain ⟨d0, d1, d2, d3⟩ := D
  refine ⟨d0, fun i hi hi2 => ?_, d2, fun hM i t ht hi he hR => ?_⟩
  · obtain ⟨a1, a2, a3⟩ := d1 i hi hi2
    exact ⟨a1, by omega, a3⟩
  · by_cases e1 : 3 * i + t < e
    · exact d3 hM i t ht hi e1 hR
    · have ei : e / 3 = i := by omega
      have et : e % 3 = t := by omega
      rw [ei, et] at h
      have hm : zc_step o g L (zb_at (zb_L o g L c0 e) i) t ∈ zb_L o g L c0 e :=
        Classical.byContradiction fun hn => h ⟨hR, hM, hn⟩
      obtain ⟨m, hm1, hm2⟩ := zb_mem_at hm
      refine ⟨m, hm1, hm2, ?_⟩
      rcases Nat.eq_zero_or_pos m with e2 | e2
      · exact Or.inl e2
      · have := (d1 m e2 hm1).2.1
        exact Or.inr (by omega)
theorem zb_D_new (D : zb_D o g L (zb_L o g L c0 e) e key d) (h1 : e / 3 < (zb_L o g L c0 e).length)
    (h2 : zc_R o g L (zb_at (zb_L o g L c0 e) (e / 3)) (e % 3)) (h3 : (zb_L o g L c0 e).length ≤ 1200)
    (h4 : zc_step o g L (zb_at (zb_L o g L c0 e) (e / 3)) (e % 3) ∉ zb_L o g L c0 e) :
    zb_L o g L c0 (e + 1) = zb_L o g L c0 e ++ [zc_step o g L (zb_at (zb_L o g L c0 e) (e / 3)) (e % 3)] ∧
    zb_D o g L (zb_L o g L c0 (e + 1)) (e + 1) (zc_up key (zb_L o g L c0 e).length e) (zc_up d (zb_L o g L c0 e).length (d (e / 3) + 1)) := by
  have hl := zb_pos h1 h3 h2 h4
  refine ⟨hl, ?_⟩
  rw [hl]
  generalize zb_L o g L c0 e = l at *
  obtain ⟨d0, d1, d2, d3⟩ := D
  have hlen : (l ++ [zc_step o g L (zb_at l (e / 3)) (e % 3)]).length = l.length + 1 := by simp
  have hpos : 0 < l.length := by omega
  refine ⟨?_, fun i hi hi2 => ?_, fun i j h0 h5 h6 => ?_, fun hM i t ht hi he hR => ?_⟩
  · rw [zc_up_n (by omega)]; exact d0
  · rw [hlen] at hi2
    by_cases ei : i = l.length
    · subst ei
      rw [zc_up_s, zc_up_s, zc_up_n (by omega), zb_at_app h1, zb_at_new]
      exact ⟨h1, by omega, rfl, h2, rfl⟩
    · obtain ⟨a1, a2, a3, a4, a5⟩ := d1 i hi (by omega)
      rw [zc_up_n ei, zc_up_n ei, zc_up_n (by omega), zb_at_app (by omega), zb_at_app (by omega)]
      exact ⟨a1, by omega, a3, a4, a5⟩
  · rw [hlen] at h6
    rw [zc_up_n (by omega)]
    by_cases ej : j = l.length
    · subst ej
      rw [zc_up_s]
      exact (d1 i h0 h5).2.1
    · rw [zc_up_n ej]
      exact d2 i j h0 h5 (by omega)
  · rw [hlen] at hi hM
    by_cases ei : i < l.length
    · rw [zb_at_app ei] at hR ⊢
      by_cases e1 : 3 * i + t < e
      · obtain ⟨m, m1, m2, m3⟩ := d3 h3 i t ht ei e1 hR
        refine ⟨m, by omega, by rw [zb_at_app m1]; exact m2, ?_⟩
        rw [zc_up_n (by omega)]
        exact m3
      · have ei2 : e / 3 = i := by omega
        have et : e % 3 = t := by omega
        rw [ei2, et]
        refine ⟨l.length, by simp, zb_at_new, Or.inr ?_⟩
        rw [zc_up_s]; omega
    · omega
/-- when every edge is through, the list is what the search in breadth gives -/
theorem zb_B {l : List (Nat → Nat)} (D : zb_D o g L l e key d) (hd : l.Nodup) (hM : l.length ≤ 1200) (he : 3 * l.length ≤ e) : zg_B l.length (zb_E o g L l) key d := by
  obtain ⟨d0, d1, d2, d3⟩ := D
  refine ⟨fun i t m h => ⟨h.1, h.2.1, h.2.2.1⟩, fun i t m m' h h' => zb_inj hd h.2.2.1 h'.2.2.1 (h.2.2.2.2.symm.trans h'.2.2.2.2), d0, fun i hi hi2 => ?_, d2, fun i t m h => ?_⟩
  · obtain ⟨a1, a2, a3, a4, a5⟩ := d1 i hi hi2
    exact ⟨a1, a3, by omega, by omega, hi2, a4, a5⟩
  · obtain ⟨m', m1, m2, m3⟩ := d3 hM i t h.2.1 h.1 (by have := h.1; have := h.2.1; omega) h.2.2.2.1
    have : m' = m := zb_inj hd m1 h.2.2.1 (m2.trans h.2.2.2.2)
    rw [← this]; exact m3
/-- a way in the list is a row of steps: it is short -/
theorem zb_R30 (hK : zc_K o g L) {l : List (Nat → Nat)} (hV : ∀ x, x ∈ l → zc_V o L x) {S : Nat → Prop} : ∀ n k, k < l.length → zg_R (zb_E o g L l) S n k →
    zc_psi (zb_at l k) 0 + zc_psi (zb_at l k) 1 + zc_psi (zb_at l k) 2 + n ≤ 30 := by
  intro n
  induction n with
  | zero =>
    intro k hk _
    have hv := hV _ (zb_at_mem hk)
    have k0 := zc_psi_le hK hv (t := 0) (by omega)
    have k1 := zc_psi_le hK hv (t := 1) (by omega)
    have k2 := zc_psi_le hK hv (t := 2) (by omega)
    omega
  | succ n ih =>
    intro k hk h
    obtain ⟨t, m, h1, h2⟩ := h
    have h3 := ih m h1.2.2.1 h2
    have h4 := zc_psi_all hK (hV _ (zb_at_mem hk)) h1.2.1 h1.2.2.2.1
    rw [h1.2.2.2.2] at h4
    omega
end
/-! endings -/
def ze_S (f : Nat → Nat) (n : Nat) (mk : Nat → Nat) : Prop :=
  (∀ i j, i < j → j < n → f i < f j) ∧ (∀ i, i < n → f i < 16384 ∧ mk (f i) ≠ 0) ∧ (∀ e, e < 16384 → mk e ≠ 0 → ∃ i, i < n ∧ f i = e)
section
variable {f mk : Nat → Nat} {n : Nat}
theorem ze_cnt (h : ze_S f n mk) : ∀ m, m ≤ 16384 → ∃ r, r ≤ n ∧ zh_c mk m = r ∧ (∀ i, i < r → f i < m) ∧ (∀ i, r ≤ i → i < n → m ≤ f i) := by
  obtain ⟨h1, h2, h3⟩ := h
  intro m
  induction m with
  | zero => intro _; exact ⟨0, Nat.zero_le _, rfl, fun i hi => by omega, fun i _ _ => Nat.zero_le _⟩
  | succ m ih =>
    intro hm
    obtain ⟨r, r1, r2, r3, r4⟩ := ih (by omega)
    by_cases e : mk m = 0
    · refine ⟨r, r1, ?_, fun i hi => by have := r3 i hi; omega, fun i hi hn => ?_⟩
      · show zh_c mk m + (if mk m = 0 then 0 else 1) = r
        rw [if_pos e, r2]; omega
      · have a := r4 i hi hn
        have b := (h2 i hn).2
        rcases Nat.lt_or_ge m (f i) with c | c
        · exact c
        · have : f i = m := by omega
          rw [this] at b; exact absurd e b
    · obtain ⟨i, hi, hf⟩ := h3 m (by omega) e
      have hir : i = r := by
        rcases Nat.lt_trichotomy i r with c | c | c
        · have := r3 i c; omega
        · exact c
        · have := h1 r i c hi
          have := r4 r (Nat.le_refl _) (by omega)
          omega
      subst hir
      refine ⟨i + 1, by omega, ?_, fun j hj => ?_, fun j hj hn => ?_⟩
      · show zh_c mk m + (if mk m = 0 then 0 else 1) = i + 1
        rw [if_neg e, r2]
      · by_cases c : j = i
        · rw [c]; omega
        · have := r3 j (by omega); omega
      · have := h1 i j (by omega) hn
        omega
theorem ze_all (h : ze_S f n mk) : zh_c mk 16384 = n := by
  obtain ⟨r, r1, r2, r3, r4⟩ := ze_cnt h 16384 (Nat.le_refl _)
  rcases Nat.lt_or_ge r n with c | c
  · have := r4 r (Nat.le_refl _) c
    have := (h.2.1 r c).1
    omega
  · omega
theorem ze_nth (h : ze_S f n mk) {i : Nat} (hi : i < n) : zh_c mk (f i) = i := by
  obtain ⟨r, r1, r2, r3, r4⟩ := ze_cnt h (f i) (by have := (h.2.1 i hi).1; omega)
  rw [r2]
  rcases Nat.lt_trichotomy r i with c | c | c
  · have := h.1 r i c hi
    have := r4 r (Nat.le_refl _) (by omega)
    omega
  · exact c
  · have := r3 i c
    omega
theorem ze_0 (h : ∀ e, e < 16384 → mk e = 0) : ze_S f 0 mk :=
  ⟨fun i j _ h => by omega, fun i h => by omega, fun e he h2 => absurd (h e he) h2⟩
theorem ze_old (h : ze_S f n mk) {v : Nat} (hv : v < 16384) {i : Nat} (hi : i < n) (he : f i = v) : ze_S f n (zc_up mk v 1) := by
  refine ⟨h.1, fun j hj => ⟨(h.2.1 j hj).1, ?_⟩, fun e he2 hm => ?_⟩
  · by_cases c : f j = v
    · rw [c, zc_up_s]; omega
    · rw [zc_up_n c]; exact (h.2.1 j hj).2
  · by_cases c : e = v
    · exact ⟨i, hi, he.trans c.symm⟩
    · rw [zc_up_n c] at hm
      exact h.2.2 e he2 hm
theorem ze_new (h : ze_S f n mk) {v p : Nat} (hv : v < 16384) (hp : p ≤ n) (h1 : ∀ i, i < p → f i < v) (h2 : ∀ i, p ≤ i → i < n → v < f i)
    {f' : Nat → Nat} (e1 : ∀ i, i < p → f' i = f i) (e2 : f' p = v) (e3 : ∀ i, p ≤ i → i < n → f' (i + 1) = f i) : ze_S f' (n + 1) (zc_up mk v 1) := by
  have ev : ∀ i, i < n → f i ≠ v := by
    intro i hi
    rcases Nat.lt_or_ge i p with c | c
    · have := h1 i c; omega
    · have := h2 i c hi; omega
  have sh : ∀ i, p < i → i < n + 1 → f' i = f (i - 1) := by
    intro i a b
    have := e3 (i - 1) (by omega) (by omega)
    have c : i - 1 + 1 = i := by omega
    rwa [c] at this
  refine ⟨fun i j hij hj => ?_, fun i hi => ?_, fun e he hm => ?_⟩
  · rcases Nat.lt_trichotomy i p with a | a | a
    · rw [e1 i a]
      rcases Nat.lt_trichotomy j p with b | b | b
      · rw [e1 j b]; exact h.1 i j hij (by omega)
      · rw [b, e2]; exact h1 i a
      · rw [sh j b hj]
        exact Nat.lt_trans (h1 i a) (h2 (j - 1) (by omega) (by omega))
    · rw [a, e2, sh j (by omega) hj]
      exact h2 (j - 1) (by omega) (by omega)
    · rw [sh i a (by omega), sh j (by omega) hj]
      exact h.1 _ _ (by omega) (by omega)
  · rcases Nat.lt_trichotomy i p with a | a | a
    · rw [e1 i a, zc_up_n (ev i (by omega))]; exact h.2.1 i (by omega)
    · rw [a, e2, zc_up_s]; exact ⟨hv, by omega⟩
    · rw [sh i a hi, zc_up_n (ev _ (by omega))]; exact h.2.1 _ (by omega)
  · by_cases c : e = v
    · exact ⟨p, by omega, e2.trans c.symm⟩
    · rw [zc_up_n c] at hm
      obtain ⟨i, hi, hf⟩ := h.2.2 e he hm
      rcases Nat.lt_or_ge i p with a | a
      · exact ⟨i, by omega, (e1 i a).trans hf⟩
      · exact ⟨i + 1, by omega, (e3 i a hi).trans hf⟩
end
