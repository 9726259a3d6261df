/-! the reference's measure -/
def zs_sum (far : Nat → Nat) : Nat → Nat
  | 0 => 0
  | k + 1 => zs_sum far k + far k
theorem zs_sum_o {far : Nat → Nat} {k v : Nat} : ∀ n, n ≤ k → zs_sum (zc_up far k v) n = zs_sum far n := by
  intro n
  induction n with
  | zero => intro _; rfl
  | succ n ih =>
    intro h
    show zs_sum (zc_up far k v) n + zc_up far k v n = zs_sum far n + far n
    rw [ih (by omega), zc_up_n (by omega)]
theorem zs_sum_up {far : Nat → Nat} {k v : Nat} (h : v < far k) : ∀ n, k < n → zs_sum (zc_up far k v) n < zs_sum far n := by
  intro n
  induction n with
  | zero => intro h; omega
  | succ n ih =>
    intro hk
    show zs_sum (zc_up far k v) n + zc_up far k v n < zs_sum far n + far n
    by_cases e : k = n
    · subst e
      rw [zs_sum_o _ (Nat.le_refl _), zc_up_s]; omega
    · rw [zc_up_n (by omega)]
      have := ih (by omega)
      omega
def zs_FI (n : Nat) (E : Nat → Nat → Nat → Prop) (S : Nat → Prop) (far : Nat → Nat) : Prop :=
  ∀ k, k < n → far k ≤ 1000 ∧ (far k < 1000 → zg_R E S (far k) k) ∧ (S k → far k = 0)
theorem zs_FI_up {n : Nat} {E : Nat → Nat → Nat → Prop} {S : Nat → Prop} {far : Nat → Nat} (h : zs_FI n E S far) {k t m : Nat} (hk : k < n) (hm : m < n) (hE : E k t m) (hl : far m + 1 < far k) :
    zs_FI n E S (zc_up far k (far m + 1)) := by
  intro j hj
  by_cases e : j = k
  · subst e
    rw [zc_up_s]
    have := (h j hj).1
    have hmm := h m hm
    refine ⟨by omega, fun _ => ⟨t, m, hE, hmm.2.1 (by omega)⟩, fun hs => ?_⟩
    have := (h j hj).2.2 hs
    omega
  · rw [zc_up_n e]; exact h j hj
theorem zs_fix {n : Nat} {E : Nat → Nat → Nat → Prop} {S : Nat → Prop} {far : Nat → Nat} (h : zs_FI n E S far) (hE : ∀ i t m, E i t m → i < n ∧ t < 3 ∧ m < n)
    (hx : ∀ k, k < n → ∀ s m, E k s m → far k ≤ far m + 1) : zg_F n E S far := by
  refine ⟨fun k hk => (h k hk).1, fun k hk => (h k hk).2.1, fun l => ?_⟩
  induction l with
  | zero => intro k hk hR; have := (h k hk).2.2 hR; omega
  | succ l ih =>
    intro k hk hR
    obtain ⟨t, m, e, r⟩ := hR
    have := ih m (hE k t m e).2.2 r
    have := hx k hk t m e
    omega
def zs_Q (n : Nat) (E : Nat → Nat → Nat → Prop) (far0 : Nat → Nat) (kk : Nat) (far : Nat → Nat) (more : Int32) : Prop :=
  (more = 0 ∧ far = far0 ∧ ∀ k, kk ≤ k → k < n → ∀ s m, E k s m → far k ≤ far m + 1) ∨ (more = 1 ∧ zs_sum far n < zs_sum far0 n)
def zs_P (n : Nat) (E : Nat → Nat → Nat → Prop) (far0 : Nat → Nat) (k t : Nat) (far : Nat → Nat) (more : Int32) : Prop :=
  (more = 0 ∧ far = far0 ∧ (∀ k', k + 1 ≤ k' → k' < n → ∀ s m, E k' s m → far k' ≤ far m + 1) ∧ (∀ s, s < t → ∀ m, E k s m → far k ≤ far m + 1)) ∨
  (more = 1 ∧ zs_sum far n < zs_sum far0 n)
def zs_A (n : Nat) (a_far : Nat → Int32) (far : Nat → Nat) : Prop := ∀ j, j < n → a_far j = nI (far j)
section
variable {o g L : Nat → Nat} {l : List (Nat → Nat)} {S : Nat → Prop} {f_steps f_count f_known f_different : Int32} {a_ops a_args a_length a_next a_table a_far a_found a_who a_what a_tried : Nat → Int32} {a_path a_list a_before : Nat → Int64}
theorem zy_me65 {post : SY → Prop} {J45 : Int32 → (Nat → Int32) → (Nat → Int32) → (Nat → Int32) → (Nat → Int64) → (Nat → Int64) → (Nat → Int32) → (Nat → Int32) → (Nat → Int32) → (Nat → Int32) → (Nat → Int32) → (Nat → Int32) → (Nat → Int64) → (Nat → Int32) → Prop}
    {J58 : Int32 → Int32 → (Nat → Int32) → (Nat → Int32) → (Nat → Int32) → (Nat → Int64) → (Nat → Int64) → (Nat → Int32) → (Nat → Int32) → (Nat → Int32) → (Nat → Int32) → (Nat → Int32) → (Nat → Int32) → (Nat → Int64) → (Nat → Int32) → Prop}
    (hM : l.length ≤ 1200) (hd : l.Nodup) (hN : zb_N o g L l (3 * l.length) a_next) {far0 : Nat → Nat} {k : Nat} (hk : k < l.length)
    (hJ : ∀ (far : Nat → Nat) (more : Int32) (af : Nat → Int32), zs_FI l.length (zb_E o g L l) S far → zs_A l.length af far → zs_Q l.length (zb_E o g L l) far0 k far more → J58 more (nI k + (-1)) a_ops a_args a_length a_path a_list a_next a_table af a_found a_who a_what a_before a_tried) :
    ∀ (d t : Nat) (far : Nat → Nat) (more : Int32) (af : Nat → Int32), t + d = 3 → zs_FI l.length (zb_E o g L l) S far → zs_A l.length af far → zs_P l.length (zb_E o g L l) far0 k t far more →
      wY_measure_65 post J45 J58 (nI k) f_steps f_count f_known f_different (d + 1) more (nI t) a_ops a_args a_length a_path a_list a_next a_table af a_found a_who a_what a_before a_tried := by
  intro d
  induction d with
  | zero =>
    intro t far more af ht hF hA hP
    have e : t = 3 := by omega
    subst e
    refine br_t (by decide) (nm_e (hJ far more af hF hA ?_))
    rcases hP with ⟨p1, p2, p3, p4⟩ | hP
    · refine Or.inl ⟨p1, p2, fun k' hk' hn s m hE => ?_⟩
      by_cases e : k' = k
      · subst e; exact p4 s hE.2.1 m hE
      · exact p3 k' (by omega) hn s m hE
    · exact Or.inr hP
  | succ d ih =>
    intro t far more af ht hF hA hP
    have i3 : vp_in (3 * nI k + nI t) 3603 := pk_in (3 * k + t) 3603 (by omega) (zy_i3 k t)
    have hNk := hN hM k t (by omega) hk (by omega)
    have ik : vp_in (nI k) 1201 := vp_in_nI (by omega) (by omega)
    have eck : af (nI k).toNatClampNeg = nI (far k) := by rw [nI_clamp (by omega)]; exact hA k hk
    have fk := (hF k hk).1
    refine br_f (nI_ge (b := 3) (by omega) (by decide)) (And.intro i3 ?_)
    by_cases hR : zc_R o g L (zb_at l k) t
    · obtain ⟨m, m1, m2, m3⟩ := hNk.2 hR
      have hE : zb_E o g L l k t m := ⟨hk, by omega, m1, hR, m3.symm⟩
      have im : vp_in (nI m) 1201 := vp_in_nI (by omega) (by omega)
      have ecm : af (nI m).toNatClampNeg = nI (far m) := by rw [nI_clamp (by omega)]; exact hA m m1
      have fm := (hF m m1).1
      refine nm_r (e' := nI m) (by rw [zy_i3, nI_clamp (by omega)]; exact m2) (br_f (nI_pos (by omega)) (And.intro im (And.intro ik ?_)))
      refine pk_lt (far m + 1) (far k) (fun hl => And.intro im (And.intro ik (nm_e (nm_r (nI_1 t) ?_)))) (fun hl => nm_r (nI_1 t) ?_) (by rw [ecm, nI_1]) eck (by omega) (by omega)
      · refine ih (t + 1) (zc_up far k (far m + 1)) 1 _ (by omega) (zs_FI_up hF hk m1 hE hl) (fun j hj => ?_) (Or.inr ⟨rfl, ?_⟩)
        · rw [nI_clamp (show k < 2 ^ 31 by omega), ecm]
          unfold upd zc_up
          split
          · exact nI_1 _
          · exact hA j hj
        · have hs := zs_sum_up hl l.length hk
          rcases hP with ⟨p1, p2, p3, p4⟩ | hP
          · rw [p2] at hs ⊢; exact hs
          · omega
      · refine ih (t + 1) far more af (by omega) hF hA ?_
        rcases hP with ⟨p1, p2, p3, p4⟩ | hP
        · refine Or.inl ⟨p1, p2, p3, fun s hs m' hE' => ?_⟩
          by_cases e : s = t
          · subst e
            have : m' = m := zb_inj hd hE'.2.2.1 m1 (hE'.2.2.2.2.symm.trans m3.symm)
            rw [this]; exact hl
          · exact p4 s (by omega) m' hE'
        · exact Or.inr hP
    · refine nm_r (e' := -1) (by rw [zy_i3, nI_clamp (by omega)]; exact hNk.1 hR) (br_t (by decide) (nm_r (nI_1 t) ?_))
      refine ih (t + 1) far more af (by omega) hF hA ?_
      rcases hP with ⟨p1, p2, p3, p4⟩ | hP
      · refine Or.inl ⟨p1, p2, p3, fun s hs m' hE' => ?_⟩
        by_cases e : s = t
        · subst e; exact absurd hE'.2.2.2.1 hR
        · exact p4 s (by omega) m' hE'
      · exact Or.inr hP
theorem zy_me58 {post : SY → Prop} {J45 : Int32 → (Nat → Int32) → (Nat → Int32) → (Nat → Int32) → (Nat → Int64) → (Nat → Int64) → (Nat → Int32) → (Nat → Int32) → (Nat → Int32) → (Nat → Int32) → (Nat → Int32) → (Nat → Int32) → (Nat → Int64) → (Nat → Int32) → Prop}
    (hM : l.length ≤ 1200) (hd : l.Nodup) (hN : zb_N o g L l (3 * l.length) a_next) {far0 : Nat → Nat}
    (hJ : ∀ (far : Nat → Nat) (more : Int32) (af : Nat → Int32), zs_FI l.length (zb_E o g L l) S far → zs_A l.length af far → zs_Q l.length (zb_E o g L l) far0 0 far more → J45 more a_ops a_args a_length a_path a_list a_next a_table af a_found a_who a_what a_before a_tried) :
    ∀ (kk : Nat) (far : Nat → Nat) (more : Int32) (af : Nat → Int32), kk ≤ l.length → zs_FI l.length (zb_E o g L l) S far → zs_A l.length af far → zs_Q l.length (zb_E o g L l) far0 kk far more →
      wY_measure_58 post J45 f_steps f_count f_known f_different (kk + 1) more (nI kk + (-1)) a_ops a_args a_length a_path a_list a_next a_table af a_found a_who a_what a_before a_tried := by
  intro kk
  induction kk with
  | zero =>
    intro far more af _ hF hA hQ
    exact br_t (by decide) (hJ far more af hF hA hQ)
  | succ kk ih =>
    intro far more af hkk hF hA hQ
    rw [pk_m1]
    refine br_f (nI_pos (by omega)) ⟨4, ?_⟩
    refine zy_me65 hM hd hN (by omega) (fun far more af hF hA hQ => ih far more af (by omega) hF hA hQ) 3 0 far more af rfl hF hA ?_
    rcases hQ with ⟨p1, p2, p3⟩ | hQ
    · exact Or.inl ⟨p1, p2, p3, fun s hs => by omega⟩
    · exact Or.inr hQ
theorem zy_me45 {post : SY → Prop} (hM : l.length ≤ 1200) (h1 : 1 ≤ l.length) (hd : l.Nodup) (hN : zb_N o g L l (3 * l.length) a_next)
    (hp : ∀ (far : Nat → Nat) (af : Nat → Int32), zg_F l.length (zb_E o g L l) S far → zs_A l.length af far → post (f_steps, nI l.length, f_known, f_different, a_ops, a_args, a_length, a_path, a_list, a_next, a_table, af, a_found, a_who, a_what, a_before, a_tried)) :
    ∀ (N : Nat) (far : Nat → Nat) (af : Nat → Int32), zs_FI l.length (zb_E o g L l) S far → zs_A l.length af far → zs_sum far l.length < N →
      wY_measure_45 post f_steps (nI l.length) f_known f_different (N + 1) 1 a_ops a_args a_length a_path a_list a_next a_table af a_found a_who a_what a_before a_tried := by
  intro N
  induction N with
  | zero => intro far af _ _ h; omega
  | succ N ih =>
    intro far af hF hA hs
    refine br_f (by decide) (nm_r (e' := nI l.length + (-1)) ?_ ⟨l.length + 1, ?_⟩)
    · obtain ⟨q, hq⟩ : ∃ q, l.length = q + 1 := ⟨l.length - 1, by omega⟩
      rw [hq, pk_m1, nI_pred]
    · refine zy_me58 (far0 := far) hM hd hN (fun far' more af' hF' hA' hQ' => ?_) l.length far 0 af (Nat.le_refl _) hF hA (Or.inl ⟨rfl, rfl, fun k hk hn => by omega⟩)
      rcases hQ' with ⟨p1, p2, p3⟩ | ⟨p1, p2⟩
      · subst p1
        exact br_t rfl (hp far' af' (zs_fix hF' (fun i t m h => ⟨h.1, h.2.1, h.2.2.1⟩) fun k hk => p3 k (by omega) hk) hA')
      · subst p1
        exact ih far' af' hF' hA' (by omega)
end
