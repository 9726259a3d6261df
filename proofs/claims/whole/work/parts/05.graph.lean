/-! a list of states in the order in which a breadth-first search finds them: nearest, and the way to it -/
def zg_R (E : Nat → Nat → Nat → Prop) (S : Nat → Prop) : Nat → Nat → Prop
  | 0, k => S k
  | l + 1, k => ∃ t m, E k t m ∧ zg_R E S l m
def zg_an (key : Nat → Nat) (G : Nat) : Nat → Nat
  | 0 => G
  | q + 1 => key (zg_an key G q) / 3
/-- what the search has kept of each state: a key (three times the state before, and the thread), a distance -/
def zg_B (n : Nat) (E : Nat → Nat → Nat → Prop) (key d : Nat → Nat) : Prop :=
  (∀ i t m, E i t m → i < n ∧ t < 3 ∧ m < n) ∧ (∀ i t m m', E i t m → E i t m' → m = m') ∧ d 0 = 0 ∧
  (∀ i, 0 < i → i < n → key i / 3 < i ∧ d i = d (key i / 3) + 1 ∧ E (key i / 3) (key i % 3) i) ∧
  (∀ i j, 0 < i → i < j → j < n → key i < key j) ∧
  (∀ i t m, E i t m → m = 0 ∨ key m ≤ 3 * i + t)
section
variable {n : Nat} {E : Nat → Nat → Nat → Prop} {S : Nat → Prop} {key d : Nat → Nat}
theorem zg_mono (B : zg_B n E key d) : ∀ N j, j < N → j < n → ∀ i, i ≤ j → d i ≤ d j := by
  obtain ⟨_, _, k0, k1, k2, _⟩ := B
  intro N
  induction N with
  | zero => intro j h; omega
  | succ N ih =>
    intro j hj hn i hi
    by_cases e0 : i = 0
    · rw [e0, k0]; exact Nat.zero_le _
    by_cases e : i = j
    · rw [e]; exact Nat.le_refl _
    obtain ⟨a1, a2, _⟩ := k1 j (by omega) hn
    obtain ⟨b1, b2, _⟩ := k1 i (by omega) (by omega)
    have hk := k2 i j (by omega) (by omega) hn
    have := ih (key j / 3) (by omega) (by omega) (key i / 3) (by omega)
    omega
theorem zg_le (B : zg_B n E key d) {i j : Nat} (hj : j < n) (h : i ≤ j) : d i ≤ d j := zg_mono B (j + 1) j (Nat.lt_succ_self _) hj i h
theorem zg_edge (B : zg_B n E key d) {i t m : Nat} (h : E i t m) : d m ≤ d i + 1 := by
  have hh := B.1 i t m h
  rcases B.2.2.2.2.2 i t m h with e | e
  · rw [e, B.2.2.1]; omega
  · by_cases e0 : m = 0
    · rw [e0, B.2.2.1]; omega
    · obtain ⟨a1, a2, _⟩ := B.2.2.2.1 m (by omega) hh.2.2
      have := zg_le B hh.1 (i := key m / 3) (by omega)
      omega
theorem zg_path (B : zg_B n E key d) (hS : ∀ k, S k → k < n) : ∀ l k, zg_R E S l k → ∃ s, S s ∧ d s ≤ d k + l := by
  intro l
  induction l with
  | zero => intro k h; exact ⟨k, h, by omega⟩
  | succ l ih =>
    intro k h
    obtain ⟨t, m, h1, h2⟩ := h
    obtain ⟨s, h3, h4⟩ := ih m h2
    have := zg_edge B h1
    exact ⟨s, h3, by omega⟩
section
variable {G : Nat}
theorem zg_an_d (B : zg_B n E key d) (hG : G < n) : ∀ q, q ≤ d G → zg_an key G q < n ∧ d (zg_an key G q) + q = d G := by
  intro q
  induction q with
  | zero => intro _; exact ⟨hG, rfl⟩
  | succ q ih =>
    intro hq
    obtain ⟨h1, h2⟩ := ih (by omega)
    have h0 : 0 < zg_an key G q := by
      rcases Nat.eq_zero_or_pos (zg_an key G q) with e | e
      · rw [e, B.2.2.1] at h2; omega
      · exact e
    obtain ⟨a1, a2, _⟩ := B.2.2.2.1 _ h0 h1
    show key (zg_an key G q) / 3 < n ∧ d (key (zg_an key G q) / 3) + (q + 1) = d G
    exact ⟨by omega, by omega⟩
theorem zg_an_pos (B : zg_B n E key d) (hG : G < n) {q : Nat} (hq : q < d G) : 0 < zg_an key G q := by
  have := zg_an_d B hG q (by omega)
  rcases Nat.eq_zero_or_pos (zg_an key G q) with e | e
  · rw [e, B.2.2.1] at this; omega
  · exact e
theorem zg_an_0 (B : zg_B n E key d) (hG : G < n) : zg_an key G (d G) = 0 := by
  have := zg_an_d B hG (d G) (Nat.le_refl _)
  rcases Nat.eq_zero_or_pos (zg_an key G (d G)) with e | e
  · exact e
  · obtain ⟨a1, a2, _⟩ := B.2.2.2.1 _ e this.1
    omega
theorem zg_an_E (B : zg_B n E key d) (hG : G < n) {q : Nat} (hq : q < d G) :
    E (zg_an key G (q + 1)) (key (zg_an key G q) % 3) (zg_an key G q) :=
  (B.2.2.2.1 _ (zg_an_pos B hG hq) (zg_an_d B hG q (by omega)).1).2.2
theorem zg_an_R (B : zg_B n E key d) (hG : G < n) (hS : S G) : ∀ q, q ≤ d G → zg_R E S q (zg_an key G q) := by
  intro q
  induction q with
  | zero => intro _; exact hS
  | succ q ih => intro hq; exact ⟨_, _, zg_an_E B hG (by omega), ih (by omega)⟩
theorem zg_far (B : zg_B n E key d) (hS : ∀ k, S k → k < n) (hG : G < n) (hf : ∀ s, S s → G ≤ s) {l k : Nat} (h : zg_R E S l k) : d G ≤ d k + l := by
  obtain ⟨s, h1, h2⟩ := zg_path B hS l k h
  have := zg_le B (hS s h1) (hf s h1)
  omega
theorem zg_ord (B : zg_B n E key d) (hS : ∀ k, S k → k < n) (hG : G < n) (hf : ∀ s, S s → G ≤ s) : ∀ q a, q ≤ d G → a < zg_an key G q →
    d a ≤ d (zg_an key G q) → zg_R E S q a → False := by
  intro q
  induction q with
  | zero => intro a _ ha _ h; exact absurd (hf a h) (by simpa [zg_an] using ha)
  | succ q ih =>
    intro a hq ha hd h
    obtain ⟨t, m, h1, h2⟩ := h
    have hb := zg_an_d B hG q (by omega)
    have hb0 := zg_an_pos B hG (q := q) (by omega)
    have hb1 := zg_an_d B hG (q + 1) hq
    have e1 := zg_edge B h1
    have e2 := zg_far B hS hG hf h2
    have hh := B.1 a t m h1
    have ha' : a < key (zg_an key G q) / 3 := ha
    have hm0 : m ≠ 0 := by
      intro e
      rw [e, B.2.2.1] at e2
      omega
    have hkm : key m ≤ 3 * a + t := by
      rcases B.2.2.2.2.2 a t m h1 with e | e
      · exact absurd e hm0
      · exact e
    have hlt : m < zg_an key G q := by
      refine Classical.byContradiction fun hn => ?_
      by_cases e : m = zg_an key G q
      · rw [e] at hkm; omega
      · have := B.2.2.2.2.1 (zg_an key G q) m hb0 (by omega) hh.2.2
        omega
    exact ih m (by omega) hlt (by omega) h2
/-- what the other search keeps: how far each state is from one that is sought -/
def zg_F (n : Nat) (E : Nat → Nat → Nat → Prop) (S : Nat → Prop) (far : Nat → Nat) : Prop :=
  (∀ k, k < n → far k ≤ 1000) ∧ (∀ k, k < n → far k < 1000 → zg_R E S (far k) k) ∧ (∀ l k, k < n → zg_R E S l k → far k ≤ l)
variable {far : Nat → Nat}
theorem zg_never (hF : zg_F n E S far) (B : zg_B n E key d) (hS : ∀ k, S k → k < n) (hn : 0 < n) (h : ∀ k, ¬ S k) : far 0 = 1000 := by
  have h1 := hF.1 0 hn
  rcases Nat.lt_or_ge (far 0) 1000 with e | e
  · obtain ⟨s, h2, _⟩ := zg_path B hS _ _ (hF.2.1 0 hn e)
    exact absurd h2 (h s)
  · omega
theorem zg_far_an (hF : zg_F n E S far) (B : zg_B n E key d) (hS : ∀ k, S k → k < n) (hG : G < n) (hSG : S G) (hf : ∀ s, S s → G ≤ s) (hb : d G < 1000) {q : Nat} (hq : q ≤ d G) :
    far (zg_an key G q) = q := by
  have h1 := zg_an_d B hG q hq
  have h2 := hF.2.2 q _ h1.1 (zg_an_R B hG hSG q hq)
  have h3 := zg_far B hS hG hf (hF.2.1 _ h1.1 (by omega))
  omega
theorem zg_soon (hF : zg_F n E S far) (B : zg_B n E key d) (hS : ∀ k, S k → k < n) (hG : G < n) (hSG : S G) (hf : ∀ s, S s → G ≤ s) (hb : d G < 1000) :
    far 0 = d G := by
  have := zg_far_an hF B hS hG hSG hf hb (q := d G) (Nat.le_refl _)
  rwa [zg_an_0 B hG] at this
theorem zg_low (hF : zg_F n E S far) (B : zg_B n E key d) (hS : ∀ k, S k → k < n) (hG : G < n) (hSG : S G) (hf : ∀ s, S s → G ≤ s) (hb : d G < 1000) {q : Nat} (hq : q < d G)
    {t m : Nat} (ht : t < key (zg_an key G q) % 3) (h : E (zg_an key G (q + 1)) t m) : far m ≠ q := by
  intro he
  have hh := B.1 _ t m h
  have h2 := hF.2.1 m hh.2.2 (by omega)
  rw [he] at h2
  have hb1 := zg_an_d B hG (q + 1) (by omega)
  have hb0 := zg_an_d B hG q (by omega)
  have hp := zg_an_pos B hG hq
  have e1 := zg_edge B h
  have e2 := zg_far B hS hG hf h2
  have hm0 : m ≠ 0 := by
    intro e
    rw [e, B.2.2.1] at e2
    omega
  have hkm : key m ≤ 3 * zg_an key G (q + 1) + t := by
    rcases B.2.2.2.2.2 _ t m h with e | e
    · exact absurd e hm0
    · exact e
  have hdef : zg_an key G (q + 1) = key (zg_an key G q) / 3 := rfl
  have hlt : m < zg_an key G q := by
    refine Classical.byContradiction fun hn => ?_
    by_cases e : m = zg_an key G q
    · rw [e] at hkm; omega
    · have := B.2.2.2.2.1 (zg_an key G q) m hp (by omega) hh.2.2
      omega
  exact zg_ord B hS hG hf q m (by omega) hlt (by omega) h2
end
end
