/-! the walk over the normal rows, as pure counting: which rows are done, which runs are counted -/
def zk_done (w : List Nat) (tr : Nat) (x : List Nat) : Prop :=
  ∃ p t q, x = p ++ t :: q ∧ ((∃ u y, w = p ++ u :: y ∧ t < u) ∨ (p = w ∧ t < tr))
section
variable (o g L c : Nat → Nat)
def zk_I (w : List Nat) (tr : Nat) (C G : List (List Nat)) : Prop :=
  zt_ok o g L c w ∧ zt_nor o g [] (zt_lab o g L c w) ∧ G.Nodup ∧
  (∀ x, x ∈ G → zt_ok o g L c x ∧ zt_nor o g [] (zt_lab o g L c x) ∧ ∃ l, l ∈ C ∧ zt_by o g L c x l) ∧
  (∀ x, x ∈ G → zk_done w tr x) ∧
  (∀ l, zt_ok o g L c l → zt_end o g L (zt_run o g L c l) → zt_nor o g [] (zt_lab o g L c l) → (zk_done w tr l ∨ l = w) → l ∈ C)
/-- the steps before, the newest first -/
def zk_acc (w : List Nat) : List (Nat × Nat) := (zt_lab o g L c w).reverse
/-- the walk goes on with this thread -/
def zk_via (w : List Nat) (t : Nat) : Prop :=
  zc_R o g L (zt_run o g L c w) t ∧ ¬ zt_bel o g (zk_acc o g L c w) t (zc_pc (zt_run o g L c w) t)
end
theorem zk_not_self {w : List Nat} {tr : Nat} (h : zk_done w tr w) : False := by
  obtain ⟨p, t, q, e, h⟩ := h
  rcases h with ⟨u, y, e2, hl⟩ | ⟨e2, hl⟩
  · rw [e2] at e
    have := List.append_cancel_left e
    injection this with e3 e4
    omega
  · rw [e2] at e
    have := congrArg List.length e
    simp at this
theorem zk_done_mono {w x : List Nat} {tr tr' : Nat} (hl : tr ≤ tr') (h : zk_done w tr x) : zk_done w tr' x := by
  obtain ⟨p, t, q, e, h⟩ := h
  exact ⟨p, t, q, e, h.imp id fun h => ⟨h.1, by omega⟩⟩
theorem zk_done_in {w x : List Nat} {t : Nat} (h : zk_done w t x) : zk_done (w ++ [t]) 0 x := by
  obtain ⟨p, s, q, e, h⟩ := h
  refine ⟨p, s, q, e, Or.inl ?_⟩
  rcases h with ⟨u, y, e2, hl⟩ | ⟨e2, hl⟩
  · exact ⟨u, y ++ [t], by rw [e2]; simp, hl⟩
  · exact ⟨t, [], by rw [e2], hl⟩
theorem zk_snoc {w p y : List Nat} {t u : Nat} (h : w ++ [t] = p ++ u :: y) : (p = w ∧ u = t ∧ y = []) ∨ ∃ y', w = p ++ u :: y' := by
  rcases List.append_eq_append_iff.mp h with ⟨s, e1, e2⟩ | ⟨s, e1, e2⟩
  · cases s with
    | nil =>
      injection e2 with e3 e4
      exact Or.inl ⟨by simpa using e1, e3.symm, e4.symm⟩
    | cons s1 s =>
      injection e2 with e3 e4
      simp at e4
  · cases s with
    | nil =>
      injection e2 with e3 e4
      exact Or.inl ⟨by simpa using e1.symm, e3, e4⟩
    | cons s1 s =>
      injection e2 with e3 e4
      exact Or.inr ⟨s, by rw [e1, e3]⟩
theorem zk_done_out {w x : List Nat} {t : Nat} (h : zk_done (w ++ [t]) 0 x) : zk_done w t x := by
  obtain ⟨p, s, q, e, h⟩ := h
  rcases h with ⟨u, y, e2, hl⟩ | ⟨e2, hl⟩
  · rcases zk_snoc e2 with ⟨e3, e4, e5⟩ | ⟨y', e3⟩
    · exact ⟨p, s, q, e, Or.inr ⟨e3, by omega⟩⟩
    · exact ⟨p, s, q, e, Or.inl ⟨u, y', e3, hl⟩⟩
  · omega
section
variable {o g L c : Nat → Nat} {w : List Nat} {tr : Nat} {C G : List (List Nat)}
theorem zk_next {q : List Nat} {t : Nat} (hk : zt_ok o g L c (w ++ t :: q)) (hn : zt_nor o g [] (zt_lab o g L c (w ++ t :: q))) : t < 3 ∧ zk_via o g L c w t := by
  have h1 := ((zt_ok_app w (t :: q) c).mp hk).2
  refine ⟨h1.1, h1.2.1, ?_⟩
  rw [zt_lab_app] at hn
  have := zt_nor_at (zt_lab o g L c w) [] (e := (t, zc_pc (zt_run o g L c w) t)) hn
  rwa [List.append_nil] at this
theorem zk_skip (I : zk_I o g L c w tr C G) (hv : ¬ zk_via o g L c w tr) : zk_I o g L c w (tr + 1) C G := by
  obtain ⟨i1, i2, i3, i4, i5, i6⟩ := I
  refine ⟨i1, i2, i3, i4, fun x hx => zk_done_mono (Nat.le_succ _) (i5 x hx), fun l k1 k2 k3 h => i6 l k1 k2 k3 ?_⟩
  rcases h with ⟨p, t, q, e, h⟩ | h
  · rcases h with h | ⟨h1, h2⟩
    · exact Or.inl ⟨p, t, q, e, Or.inl h⟩
    · by_cases et : t = tr
      · exfalso
        rw [e, h1, et] at k1 k3
        exact hv (zk_next k1 k3).2
      · exact Or.inl ⟨p, t, q, e, Or.inr ⟨h1, by omega⟩⟩
  · exact Or.inr h
theorem zt_nor_snoc {e : Nat × Nat} : ∀ (E acc : List (Nat × Nat)), zt_nor o g acc E → ¬ zt_bel o g (E.reverse ++ acc) e.1 e.2 → zt_nor o g acc (E ++ [e]) := by
  intro E
  induction E with
  | nil => intro acc _ h; exact ⟨h, trivial⟩
  | cons z E ih =>
    intro acc hn h
    refine ⟨hn.1, ih (z :: acc) hn.2 ?_⟩
    have : (z :: E).reverse ++ acc = E.reverse ++ z :: acc := by simp
    rwa [this] at h
theorem zk_ok1 {t : Nat} (hk : zt_ok o g L c w) (ht : t < 3) (hv : zk_via o g L c w t) : zt_ok o g L c (w ++ [t]) :=
  (zt_ok_app _ _ _).mpr ⟨hk, ht, hv.1, trivial⟩
theorem zk_nor1 {t : Nat} (hn : zt_nor o g [] (zt_lab o g L c w)) (hv : zk_via o g L c w t) : zt_nor o g [] (zt_lab o g L c (w ++ [t])) := by
  rw [zt_lab_app]
  refine zt_nor_snoc _ _ hn ?_
  rw [List.append_nil]
  exact hv.2
theorem zk_in (I : zk_I o g L c w tr C G) (ht : tr < 3) (hv : zk_via o g L c w tr) {C' : List (List Nat)} (hC : ∀ l, l ∈ C → l ∈ C')
    (hw : zt_end o g L (zt_run o g L c (w ++ [tr])) → w ++ [tr] ∈ C') : zk_I o g L c (w ++ [tr]) 0 C' G := by
  obtain ⟨i1, i2, i3, i4, i5, i6⟩ := I
  refine ⟨zk_ok1 i1 ht hv, zk_nor1 i2 hv, i3, fun x hx => ?_, fun x hx => zk_done_in (i5 x hx), fun l k1 k2 k3 h => ?_⟩
  · obtain ⟨a1, a2, l, a3, a4⟩ := i4 x hx
    exact ⟨a1, a2, l, hC l a3, a4⟩
  · rcases h with h | h
    · exact hC l (i6 l k1 k2 k3 (Or.inl (zk_done_out h)))
    · rw [h] at k2 ⊢; exact hw k2
/-- all that begins so is done -/
theorem zk_ext {q l : List Nat} (hk : zt_ok o g L c l) (e : l = w ++ q) : zk_done w 3 l ∨ l = w := by
  cases q with
  | nil => exact Or.inr (by simpa using e)
  | cons t q =>
    have := zt_ok_lt l c hk t (by rw [e]; simp)
    exact Or.inl ⟨w, t, q, e, Or.inr ⟨rfl, this⟩⟩
theorem zk_counted (hK : zc_K o g L) (hV : zc_V o L c) (I : zk_I o g L c w 3 C G) : ∃ l, l ∈ C ∧ zt_by o g L c w l := by
  obtain ⟨i1, i2, i3, i4, i5, i6⟩ := I
  obtain ⟨l, v, k1, k2, k3, k4, k5⟩ := zt_left hK hV i1
  refine ⟨l, i6 l k1 k2 k3 ?_, k4⟩
  rcases k5 with e | ⟨p, t, u, x, y, e1, e2, hl⟩
  · exact zk_ext k1 e
  · rcases List.append_eq_append_iff.mp e2 with ⟨s, e3, e4⟩ | ⟨s, e3, e4⟩
    · rw [e3] at e1
      exact zk_ext k1 (q := s ++ t :: x) (by rw [e1]; simp)
    · cases s with
      | nil =>
        rw [List.append_nil] at e3
        rw [← e3] at e1
        exact zk_ext k1 e1
      | cons s1 s =>
        injection e4 with e5 e6
        rw [← e5] at e3
        exact Or.inl ⟨p, t, x, e1, Or.inl ⟨u, s, e3, hl⟩⟩
theorem zk_out {t : Nat} (hK : zc_K o g L) (hV : zc_V o L c) (I : zk_I o g L c (w ++ [t]) 3 C G) : zk_I o g L c w (t + 1) C ((w ++ [t]) :: G) := by
  have hc := zk_counted hK hV I
  obtain ⟨i1, i2, i3, i4, i5, i6⟩ := I
  have hkw := (zt_ok_app w [t] c).mp i1
  have hnw : zt_nor o g [] (zt_lab o g L c w) := by
    rw [zt_lab_app] at i2
    have aux : ∀ (E F acc : List (Nat × Nat)), zt_nor o g acc (E ++ F) → zt_nor o g acc E := by
      intro E F
      induction E with
      | nil => intro acc _; trivial
      | cons z E ih => intro acc h; exact ⟨h.1, ih _ h.2⟩
    exact aux _ _ _ i2
  refine ⟨hkw.1, hnw, List.nodup_cons.mpr ⟨fun hm => zk_not_self (i5 _ hm), i3⟩, fun x hx => ?_, fun x hx => ?_, fun l k1 k2 k3 h => ?_⟩
  · rcases List.mem_cons.mp hx with e | e
    · rw [e]; exact ⟨i1, i2, hc⟩
    · exact i4 x e
  · rcases List.mem_cons.mp hx with e | e
    · exact ⟨w, t, [], e, Or.inr ⟨rfl, by omega⟩⟩
    · obtain ⟨p, s, q, e1, h⟩ := i5 x e
      rcases h with ⟨u, y, e2, hl⟩ | ⟨e2, hl⟩
      · rcases zk_snoc e2 with ⟨e3, e4, e5⟩ | ⟨y', e3⟩
        · exact ⟨p, s, q, e1, Or.inr ⟨e3, by omega⟩⟩
        · exact ⟨p, s, q, e1, Or.inl ⟨u, y', e3, hl⟩⟩
      · refine ⟨w, t, s :: q, ?_, Or.inr ⟨rfl, by omega⟩⟩
        rw [e1, e2]; simp
  · rcases h with ⟨p, s, q, e1, h⟩ | h
    · refine i6 l k1 k2 k3 ?_
      rcases h with ⟨u, y, e2, hl⟩ | ⟨e2, hl⟩
      · exact Or.inl ⟨p, s, q, e1, Or.inl ⟨u, y ++ [t], by rw [e2]; simp, hl⟩⟩
      · by_cases es : s = t
        · refine zk_ext k1 (q := q) ?_
          rw [e1, e2, es]; simp
        · exact Or.inl ⟨p, s, q, e1, Or.inl ⟨t, [], by rw [e2], by omega⟩⟩
    · rw [h] at k2
      exact absurd hkw.2.2.1 (k2 t hkw.2.1)
theorem zk_0 {C : List (List Nat)} (h : zt_end o g L c → [] ∈ C) : zk_I o g L c [] 0 C [] := by
  refine ⟨trivial, trivial, List.nodup_nil, fun x hx => by simp at hx, fun x hx => by simp at hx, fun l k1 k2 k3 h2 => ?_⟩
  rcases h2 with ⟨p, t, q, e, h3⟩ | h2
  · rcases h3 with ⟨u, y, e2, hl⟩ | ⟨e2, hl⟩
    · have := congrArg List.length e2
      simp at this
    · omega
  · rw [h2] at k2 ⊢; exact h k2
theorem zk_bound (hK : zc_K o g L) (hV : zc_V o L c) (I : zk_I o g L c w tr C G) : G.length ≤ C.length * 1331 :=
  zt_bound hK hV G C I.2.2.1 I.2.2.2.1
end
