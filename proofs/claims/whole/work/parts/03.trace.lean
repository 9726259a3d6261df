/-! rows of steps, their labels, rows that are alike, normal rows -/
section
variable (o g L : Nat → Nat)
def zt_ok : (Nat → Nat) → List Nat → Prop
  | _, [] => True
  | c, t :: r => t < 3 ∧ zc_R o g L c t ∧ zt_ok (zc_step o g L c t) r
def zt_run : (Nat → Nat) → List Nat → (Nat → Nat)
  | c, [] => c
  | c, t :: r => zt_run (zc_step o g L c t) r
def zt_lab : (Nat → Nat) → List Nat → List (Nat × Nat)
  | _, [] => []
  | c, t :: r => (t, zc_pc c t) :: zt_lab (zc_step o g L c t) r
def zt_ind (x y : Nat × Nat) : Prop := x.1 ≠ y.1 ∧ ¬ zc_T o g x.2 y.2
/-- a step belongs earlier than some of those before it (the newest first) -/
def zt_bel : List (Nat × Nat) → Nat → Nat → Prop
  | [], _, _ => False
  | x :: r, t, k => (x.1 ≠ t ∧ ¬ zc_T o g x.2 k) ∧ (t < x.1 ∨ zt_bel r t k)
def zt_nor : List (Nat × Nat) → List (Nat × Nat) → Prop
  | _, [] => True
  | acc, x :: r => ¬ zt_bel o g acc x.1 x.2 ∧ zt_nor (x :: acc) r
def zt_sw (a b : List (Nat × Nat)) : Prop := ∃ p x y q, a = p ++ x :: y :: q ∧ b = p ++ y :: x :: q ∧ zt_ind o g x y
def zt_eqn : Nat → List (Nat × Nat) → List (Nat × Nat) → Prop
  | 0, a, b => a = b
  | n + 1, a, b => ∃ m, zt_sw o g a m ∧ zt_eqn n m b
def zt_eqv (a b : List (Nat × Nat)) : Prop := ∃ n, zt_eqn o g n a b
def zt_Q (e : Nat × Nat) (E : List (Nat × Nat)) : Prop := ∃ a b, E = a ++ e :: b ∧ ∀ x, x ∈ a → zt_ind o g x e
end
def zt_del (t : Nat) : List (Nat × Nat) → List (Nat × Nat)
  | [] => []
  | x :: r => if x.1 = t then r else x :: zt_del t r
def zt_cnt (t : Nat) : List (Nat × Nat) → Nat
  | [] => 0
  | x :: r => (if x.1 = t then 1 else 0) + zt_cnt t r
def zt_val : List Nat → Nat
  | [] => 0
  | t :: r => t * 4 ^ r.length + zt_val r
def zt_lex (a b : List Nat) : Prop := a = b ∨ ∃ p t u x y, a = p ++ t :: x ∧ b = p ++ u :: y ∧ t < u
section
variable {o g L : Nat → Nat}
theorem zt_ind_sym {x y : Nat × Nat} (h : zt_ind o g x y) : zt_ind o g y x := ⟨Ne.symm h.1, fun e => h.2 (zc_T_sym e)⟩
theorem zt_sw_sym {a b : List (Nat × Nat)} (h : zt_sw o g a b) : zt_sw o g b a := by
  obtain ⟨p, x, y, q, h1, h2, h3⟩ := h
  exact ⟨p, y, x, q, h2, h1, zt_ind_sym h3⟩
theorem zt_eqn_app : ∀ (n m : Nat) (a b c : List (Nat × Nat)), zt_eqn o g n a b → zt_eqn o g m b c → zt_eqn o g (n + m) a c := by
  intro n
  induction n with
  | zero => intro m a b c h1 h2; cases h1; rw [Nat.zero_add]; exact h2
  | succ n ih =>
    intro m a b c h1 h2
    obtain ⟨x, hs, hr⟩ := h1
    rw [Nat.succ_add]
    exact ⟨x, hs, ih m x b c hr h2⟩
theorem zt_eqv_refl (a : List (Nat × Nat)) : zt_eqv o g a a := ⟨0, rfl⟩
theorem zt_eqv_trans {a b c : List (Nat × Nat)} (h1 : zt_eqv o g a b) (h2 : zt_eqv o g b c) : zt_eqv o g a c := by
  obtain ⟨n, h1⟩ := h1
  obtain ⟨m, h2⟩ := h2
  exact ⟨n + m, zt_eqn_app n m a b c h1 h2⟩
theorem zt_eqv_sw {a b : List (Nat × Nat)} (h : zt_sw o g a b) : zt_eqv o g a b := ⟨1, b, h, rfl⟩
theorem zt_eqn_sym : ∀ (n : Nat) (a b : List (Nat × Nat)), zt_eqn o g n a b → zt_eqv o g b a := by
  intro n
  induction n with
  | zero => intro a b h; cases h; exact zt_eqv_refl _
  | succ n ih =>
    intro a b h
    obtain ⟨x, hs, hr⟩ := h
    exact zt_eqv_trans (ih x b hr) (zt_eqv_sw (zt_sw_sym hs))
theorem zt_eqv_sym {a b : List (Nat × Nat)} (h : zt_eqv o g a b) : zt_eqv o g b a := by
  obtain ⟨n, h⟩ := h
  exact zt_eqn_sym n a b h
theorem zt_sw_cons {a b : List (Nat × Nat)} (z : Nat × Nat) (h : zt_sw o g a b) : zt_sw o g (z :: a) (z :: b) := by
  obtain ⟨p, x, y, q, h1, h2, h3⟩ := h
  exact ⟨z :: p, x, y, q, by rw [h1]; rfl, by rw [h2]; rfl, h3⟩
theorem zt_eqn_cons (z : Nat × Nat) : ∀ (n : Nat) (a b : List (Nat × Nat)), zt_eqn o g n a b → zt_eqn o g n (z :: a) (z :: b) := by
  intro n
  induction n with
  | zero => intro a b h; cases h; rfl
  | succ n ih =>
    intro a b h
    obtain ⟨x, hs, hr⟩ := h
    exact ⟨z :: x, zt_sw_cons z hs, ih x b hr⟩
theorem zt_eqv_cons (z : Nat × Nat) {a b : List (Nat × Nat)} (h : zt_eqv o g a b) : zt_eqv o g (z :: a) (z :: b) := by
  obtain ⟨n, h⟩ := h
  exact ⟨n, zt_eqn_cons z n a b h⟩
theorem zt_eqv_app (p : List (Nat × Nat)) {a b : List (Nat × Nat)} (h : zt_eqv o g a b) : zt_eqv o g (p ++ a) (p ++ b) := by
  induction p with
  | nil => exact h
  | cons z p ih => exact zt_eqv_cons z ih
theorem zt_Q_sw {e : Nat × Nat} {E F : List (Nat × Nat)} (h : zt_sw o g E F) (hQ : zt_Q o g e E) : zt_Q o g e F := by
  obtain ⟨p, x, y, q, h1, h2, h3⟩ := h
  obtain ⟨a, b, h4, h5⟩ := hQ
  rw [h1] at h4
  rw [h2]
  rcases List.append_eq_append_iff.mp h4 with ⟨s, e1, e2⟩ | ⟨s, e1, e2⟩
  · cases s with
    | nil =>
      injection e2 with e3 e4
      subst e3
      refine ⟨p ++ [y], q, by simp, fun z hz => ?_⟩
      rcases List.mem_append.mp hz with hz | hz
      · exact h5 z (by rw [e1]; simp [hz])
      · rw [List.mem_singleton.mp hz]; exact zt_ind_sym h3
    | cons s1 s =>
      injection e2 with e3 e4
      subst e3
      cases s with
      | nil =>
        injection e4 with e5 e6
        subst e5
        exact ⟨p, x :: q, rfl, fun z hz => h5 z (by rw [e1]; simp [hz])⟩
      | cons s2 s =>
        injection e4 with e5 e6
        subst e5
        refine ⟨p ++ y :: x :: s, b, by rw [e6]; simp, fun z hz => h5 z ?_⟩
        rw [e1]
        simp at hz ⊢
        rcases hz with hz | hz | hz | hz
        · exact Or.inl hz
        · exact Or.inr (Or.inr (Or.inl hz))
        · exact Or.inr (Or.inl hz)
        · exact Or.inr (Or.inr (Or.inr hz))
  · cases s with
    | nil =>
      injection e2 with e3 e4
      subst e3
      refine ⟨p ++ [y], q, by simp, fun z hz => ?_⟩
      rcases List.mem_append.mp hz with hz | hz
      · exact h5 z (by rw [e1] at hz; simpa using hz)
      · rw [List.mem_singleton.mp hz]; exact zt_ind_sym h3
    | cons s1 s =>
      injection e2 with e3 e4
      subst e3
      exact ⟨a, s ++ y :: x :: q, by rw [e1]; simp, h5⟩
theorem zt_Q_eqn {e : Nat × Nat} : ∀ (n : Nat) (E F : List (Nat × Nat)), zt_eqn o g n E F → zt_Q o g e E → zt_Q o g e F := by
  intro n
  induction n with
  | zero => intro E F h hQ; cases h; exact hQ
  | succ n ih =>
    intro E F h hQ
    obtain ⟨x, hs, hr⟩ := h
    exact ih x F hr (zt_Q_sw hs hQ)
theorem zt_Q_eqv {e : Nat × Nat} {E F : List (Nat × Nat)} (h : zt_eqv o g E F) (hQ : zt_Q o g e E) : zt_Q o g e F := by
  obtain ⟨n, h⟩ := h
  exact zt_Q_eqn n E F h hQ
theorem zt_del_sw (t : Nat) {x y : Nat × Nat} {q : List (Nat × Nat)} (h : zt_ind o g x y) : ∀ p : List (Nat × Nat),
    zt_del t (p ++ x :: y :: q) = zt_del t (p ++ y :: x :: q) ∨ zt_sw o g (zt_del t (p ++ x :: y :: q)) (zt_del t (p ++ y :: x :: q)) := by
  intro p
  induction p with
  | nil =>
    by_cases hx : x.1 = t
    · have hy : ¬ y.1 = t := fun e => h.1 (hx.trans e.symm)
      left; simp [zt_del, hx, hy]
    · by_cases hy : y.1 = t
      · left; simp [zt_del, hx, hy]
      · right
        exact ⟨[], x, y, zt_del t q, by simp [zt_del, hx, hy], by simp [zt_del, hx, hy], h⟩
  | cons z p ih =>
    by_cases hz : z.1 = t
    · right
      exact ⟨p, x, y, q, by simp [zt_del, hz], by simp [zt_del, hz], h⟩
    · have e1 : zt_del t (z :: p ++ x :: y :: q) = z :: zt_del t (p ++ x :: y :: q) := by simp [zt_del, hz]
      have e2 : zt_del t (z :: p ++ y :: x :: q) = z :: zt_del t (p ++ y :: x :: q) := by simp [zt_del, hz]
      rw [e1, e2]
      rcases ih with ih | ih
      · left; rw [ih]
      · right; exact zt_sw_cons z ih
theorem zt_del_eqn (t : Nat) : ∀ (n : Nat) (a b : List (Nat × Nat)), zt_eqn o g n a b → zt_eqv o g (zt_del t a) (zt_del t b) := by
  intro n
  induction n with
  | zero => intro a b h; cases h; exact zt_eqv_refl _
  | succ n ih =>
    intro a b h
    obtain ⟨m, hs, hr⟩ := h
    refine zt_eqv_trans ?_ (ih m b hr)
    obtain ⟨p, x, y, q, h1, h2, h3⟩ := hs
    rw [h1, h2]
    rcases zt_del_sw t h3 p (q := q) with h | h
    · rw [h]; exact zt_eqv_refl _
    · exact zt_eqv_sw h
theorem zt_cancel {e : Nat × Nat} {a b : List (Nat × Nat)} (h : zt_eqv o g (e :: a) (e :: b)) : zt_eqv o g a b := by
  obtain ⟨n, h⟩ := h
  have := zt_del_eqn e.1 n _ _ h
  simpa [zt_del] using this
theorem zt_cnt0 {t : Nat} : ∀ {w : List (Nat × Nat)}, (∀ x, x ∈ w → x.1 ≠ t) → zt_cnt t w = 0 := by
  intro w
  induction w with
  | nil => intro _; rfl
  | cons z w ih =>
    intro h
    have h1 := h z (by simp)
    simp [zt_cnt, h1, ih fun x hx => h x (by simp [hx])]
theorem zt_cnt_app (t : Nat) : ∀ (a b : List (Nat × Nat)), zt_cnt t (a ++ b) = zt_cnt t a + zt_cnt t b := by
  intro a b
  induction a with
  | nil => simp [zt_cnt]
  | cons z a ih => simp only [List.cons_append, zt_cnt, ih]; omega
theorem zt_pre {w v a b : List (Nat × Nat)} {e : Nat × Nat} (h : w ++ v = a ++ e :: b) (ha : ∀ x, x ∈ a → zt_ind o g x e) (hc : 0 < zt_cnt e.1 w) :
    ∃ b', w = a ++ e :: b' := by
  rcases List.append_eq_append_iff.mp h with ⟨s, e1, e2⟩ | ⟨s, e1, e2⟩
  · have : zt_cnt e.1 w = 0 := zt_cnt0 fun x hx => (ha x (by rw [e1]; simp [hx])).1
    omega
  · cases s with
    | nil =>
      have : zt_cnt e.1 w = 0 := zt_cnt0 fun x hx => (ha x (by rw [e1] at hx; simpa using hx)).1
      omega
    | cons s1 s =>
      injection e2 with e3 e4
      subst e3
      exact ⟨s, e1⟩
theorem zt_nor_at {e : Nat × Nat} {b : List (Nat × Nat)} : ∀ (p acc : List (Nat × Nat)), zt_nor o g acc (p ++ e :: b) → ¬ zt_bel o g (p.reverse ++ acc) e.1 e.2 := by
  intro p
  induction p with
  | nil => intro acc h; exact h.1
  | cons z p ih =>
    intro acc h
    have := ih (z :: acc) h.2
    simpa using this
theorem zt_bel_all {t k : Nat} {y : Nat × Nat} (hy : t < y.1) : ∀ l : List (Nat × Nat), (∀ x, x ∈ l ++ [y] → x.1 ≠ t ∧ ¬ zc_T o g x.2 k) → zt_bel o g (l ++ [y]) t k := by
  intro l
  induction l with
  | nil => intro h; exact ⟨h y (by simp), Or.inl hy⟩
  | cons z l ih => intro h; exact ⟨h z (by simp), Or.inr (ih fun x hx => h x (by simp at hx ⊢; exact Or.inr hx))⟩
theorem zt_bel_mono {t k : Nat} {m : List (Nat × Nat)} : ∀ acc : List (Nat × Nat), zt_bel o g acc t k → zt_bel o g (acc ++ m) t k := by
  intro acc
  induction acc with
  | nil => intro h; exact h.elim
  | cons z acc ih => intro h; exact ⟨h.1, h.2.elim Or.inl fun h => Or.inr (ih h)⟩
theorem zt_nor_mono {m : List (Nat × Nat)} : ∀ (w acc : List (Nat × Nat)), zt_nor o g (acc ++ m) w → zt_nor o g acc w := by
  intro w
  induction w with
  | nil => intro _ _; trivial
  | cons z w ih => intro acc h; exact ⟨fun hb => h.1 (zt_bel_mono acc hb), ih (z :: acc) h.2⟩
theorem zt_bad {e1 e2 : Nat × Nat} {w2 v2 a b : List (Nat × Nat)} (hE : e2 :: w2 ++ v2 = (e2 :: a) ++ e1 :: b) (ha : ∀ x, x ∈ e2 :: a → zt_ind o g x e1)
    (hc : 0 < zt_cnt e1.1 (e2 :: w2)) (hl : e1.1 < e2.1) (hn : zt_nor o g [] (e2 :: w2)) : False := by
  obtain ⟨b', hb⟩ := zt_pre hE ha hc
  rw [hb] at hn
  refine zt_nor_at _ _ hn ?_
  have : (e2 :: a).reverse ++ [] = a.reverse ++ [e2] := by simp
  rw [this]
  refine zt_bel_all hl _ fun x hx => ha x ?_
  simp at hx ⊢
  exact hx.symm
/-- two normal rows with as many steps of each thread, whose continuations are alike, are one row -/
theorem zt_uniq : ∀ (w1 w2 v1 v2 : List (Nat × Nat)), zt_eqv o g (w1 ++ v1) (w2 ++ v2) → zt_nor o g [] w1 → zt_nor o g [] w2 →
    (∀ t, zt_cnt t w1 = zt_cnt t w2) → w1 = w2 := by
  intro w1
  induction w1 with
  | nil =>
    intro w2 v1 v2 _ _ _ hc
    cases w2 with
    | nil => rfl
    | cons x r => have := hc x.1; simp [zt_cnt] at this; omega
  | cons e1 w1 ih =>
    intro w2 v1 v2 hE n1 n2 hc
    cases w2 with
    | nil => have := hc e1.1; simp [zt_cnt] at this
    | cons e2 w2 =>
      obtain ⟨a, b, h1, h2⟩ := zt_Q_eqv hE (e := e1) ⟨[], w1 ++ v1, rfl, fun x hx => by simp at hx⟩
      obtain ⟨a', b', h1', h2'⟩ := zt_Q_eqv (zt_eqv_sym hE) (e := e2) ⟨[], w2 ++ v2, rfl, fun x hx => by simp at hx⟩
      have same : e1 = e2 → e1 :: w1 = e2 :: w2 := by
        intro e
        subst e
        have := ih w2 v1 v2 (zt_cancel hE) (zt_nor_mono w1 [] n1.2) (zt_nor_mono w2 [] n2.2) (fun t => by
          have := hc t
          simp only [zt_cnt] at this
          omega)
        rw [this]
      cases a with
      | nil => injection h1 with h3 h4; exact same h3.symm
      | cons z a =>
        cases a' with
        | nil => injection h1' with h3 h4; exact same h3
        | cons z' a' =>
          have hz : z = e2 := by injection h1 with h3 h4; exact h3.symm
          have hz' : z' = e1 := by injection h1' with h3 h4; exact h3.symm
          subst hz
          subst hz'
          have hne : z.1 ≠ z'.1 := (h2 z (by simp)).1
          exfalso
          rcases Nat.lt_or_gt_of_ne hne with hl | hl
          · exact zt_bad h1' h2' (by rw [hc]; simp [zt_cnt]; omega) hl n1
          · exact zt_bad h1 h2 (by rw [← hc]; simp [zt_cnt]; omega) hl n2
end
