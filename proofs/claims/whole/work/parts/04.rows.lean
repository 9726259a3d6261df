/-! rows that the program can take: moving a step ahead, normal form, completion, how many there can be -/
section
variable {o g L : Nat → Nat} {c : Nat → Nat}
theorem zt_run_app : ∀ (a b : List Nat) (c : Nat → Nat), zt_run o g L c (a ++ b) = zt_run o g L (zt_run o g L c a) b := by
  intro a b
  induction a with
  | nil => intro c; rfl
  | cons t a ih => intro c; exact ih _
theorem zt_lab_app : ∀ (a b : List Nat) (c : Nat → Nat), zt_lab o g L c (a ++ b) = zt_lab o g L c a ++ zt_lab o g L (zt_run o g L c a) b := by
  intro a b
  induction a with
  | nil => intro c; rfl
  | cons t a ih => intro c; exact congrArg _ (ih _)
theorem zt_ok_app : ∀ (a b : List Nat) (c : Nat → Nat), zt_ok o g L c (a ++ b) ↔ zt_ok o g L c a ∧ zt_ok o g L (zt_run o g L c a) b := by
  intro a b
  induction a with
  | nil => intro c; exact ⟨fun h => ⟨trivial, h⟩, fun h => h.2⟩
  | cons t a ih =>
    intro c
    constructor
    · intro h; exact ⟨⟨h.1, h.2.1, ((ih _).mp h.2.2).1⟩, ((ih _).mp h.2.2).2⟩
    · intro h; exact ⟨h.1.1, h.1.2.1, (ih _).mpr ⟨h.1.2.2, h.2⟩⟩
theorem zt_V_run (hK : zc_K o g L) : ∀ (a : List Nat) (c : Nat → Nat), zc_V o L c → zt_ok o g L c a → zc_V o L (zt_run o g L c a) := by
  intro a
  induction a with
  | nil => intro c h _; exact h
  | cons t a ih => intro c h hk; exact ih _ (zc_V_step hK h hk.1 hk.2.1) hk.2.2
theorem zt_lab_fst : ∀ (a : List Nat) (c : Nat → Nat), (zt_lab o g L c a).map Prod.fst = a := by
  intro a
  induction a with
  | nil => intro c; rfl
  | cons t a ih => intro c; exact congrArg _ (ih _)
theorem zt_lab_inj {a b : List Nat} (h : zt_lab o g L c a = zt_lab o g L c b) : a = b := by
  have := congrArg (List.map Prod.fst) h
  rwa [zt_lab_fst, zt_lab_fst] at this
theorem zt_ok_lt : ∀ (a : List Nat) (c : Nat → Nat), zt_ok o g L c a → ∀ t, t ∈ a → t < 3 := by
  intro a
  induction a with
  | nil => intro c _ t ht; simp at ht
  | cons x a ih =>
    intro c h t ht
    rcases List.mem_cons.mp ht with e | e
    · rw [e]; exact h.1
    · exact ih _ h.2.2 t e
/-- a step that does not touch those before it can be taken ahead of them -/
theorem zt_move (hK : zc_K o g L) {t : Nat} {d : List Nat} : ∀ (b : List Nat) (c : Nat → Nat), zc_V o L c → zt_ok o g L c (b ++ t :: d) →
    (∀ x, x ∈ zt_lab o g L c b → zt_ind o g x (t, zc_pc (zt_run o g L c b) t)) →
    zt_ok o g L c (t :: (b ++ d)) ∧ zt_run o g L c (t :: (b ++ d)) = zt_run o g L c (b ++ t :: d) ∧
    zt_eqv o g (zt_lab o g L c (b ++ t :: d)) (zt_lab o g L c (t :: (b ++ d))) ∧ zc_pc c t = zc_pc (zt_run o g L c b) t := by
  intro b
  induction b with
  | nil => intro c _ hk _; exact ⟨hk, rfl, zt_eqv_refl _, rfl⟩
  | cons x b ih =>
    intro c hV hk hi
    have hx3 := hk.1
    have hRx := hk.2.1
    have hV' := zc_V_step hK hV hx3 hRx
    obtain ⟨k1, k2, k3, k4⟩ := ih (zc_step o g L c x) hV' hk.2.2 (fun y hy => hi y (List.mem_cons_of_mem _ hy))
    have hi0 := hi (x, zc_pc c x) (by simp [zt_lab])
    have hne : x ≠ t := hi0.1
    have ht3 := k1.1
    have e1 : zc_pc (zc_step o g L c x) t = zc_pc c t := zc_pc_o ht3 (Ne.symm hne)
    have hT : ¬ zc_T o g (zc_pc c x) (zc_pc c t) := by
      have := hi0.2
      rw [← e1, k4]
      exact this
    have hRt : zc_R o g L c t := (zc_Riff hK hV ht3 (Ne.symm hne) hT).mp k1.2.1
    have hT' : ¬ zc_T o g (zc_pc c t) (zc_pc c x) := fun h => hT (zc_T_sym h)
    have hRx' : zc_R o g L (zc_step o g L c t) x := (zc_Riff hK hV hx3 hne hT').mpr hRx
    have hcm := zc_comm hK hV hx3 ht3 hne hRx hRt hT
    have e2 : zc_pc (zc_step o g L c t) x = zc_pc c x := zc_pc_o hx3 hne
    refine ⟨⟨ht3, hRt, hx3, hRx', ?_⟩, ?_, ?_, ?_⟩
    · rw [← hcm]; exact k1.2.2
    · show zt_run o g L (zc_step o g L (zc_step o g L c t) x) (b ++ d) = _
      rw [← hcm]; exact k2
    · have s1 : zt_eqv o g (zt_lab o g L c (x :: b ++ t :: d)) ((x, zc_pc c x) :: zt_lab o g L (zc_step o g L c x) (t :: (b ++ d))) := zt_eqv_cons _ k3
      refine zt_eqv_trans s1 (zt_eqv_sw ⟨[], (x, zc_pc c x), (t, zc_pc c t), zt_lab o g L (zc_step o g L (zc_step o g L c x) t) (b ++ d), ?_, ?_, hne, hT⟩)
      · show (x, zc_pc c x) :: (t, zc_pc (zc_step o g L c x) t) :: _ = _
        rw [e1]; rfl
      · show (t, zc_pc c t) :: (x, zc_pc (zc_step o g L c t) x) :: zt_lab o g L (zc_step o g L (zc_step o g L c t) x) (b ++ d) = _
        rw [e2, ← hcm]; rfl
    · rw [← e1]; exact k4
theorem zt_lab_split : ∀ (E F : List (Nat × Nat)) (r : List Nat) (c : Nat → Nat), zt_lab o g L c r = E ++ F →
    ∃ a b, r = a ++ b ∧ zt_lab o g L c a = E ∧ zt_lab o g L (zt_run o g L c a) b = F := by
  intro E
  induction E with
  | nil => intro F r c h; exact ⟨[], r, rfl, rfl, h⟩
  | cons e E ih =>
    intro F r c h
    cases r with
    | nil => cases h
    | cons t r =>
      injection h with h1 h2
      obtain ⟨a, b, e1, e2, e3⟩ := ih F r _ h2
      exact ⟨t :: a, b, by rw [e1]; rfl, by show _ :: _ = _; rw [h1, e2], e3⟩
theorem zt_bel_dec {t k : Nat} : ∀ acc : List (Nat × Nat), zt_bel o g acc t k →
    ∃ p x r, acc = p ++ x :: r ∧ t < x.1 ∧ ∀ y, y ∈ p ++ [x] → y.1 ≠ t ∧ ¬ zc_T o g y.2 k := by
  intro acc
  induction acc with
  | nil => intro h; exact h.elim
  | cons z acc ih =>
    intro h
    rcases h.2 with h2 | h2
    · exact ⟨[], z, acc, rfl, h2, fun y hy => by rw [List.mem_singleton.mp hy]; exact h.1⟩
    · obtain ⟨p, x, r, e, hl, ha⟩ := ih h2
      refine ⟨z :: p, x, r, by rw [e]; rfl, hl, fun y hy => ?_⟩
      rcases List.mem_cons.mp hy with e | e
      · rw [e]; exact h.1
      · exact ha y e
theorem zt_nnor : ∀ (E acc : List (Nat × Nat)), ¬ zt_nor o g acc E → ∃ p e q, E = p ++ e :: q ∧ zt_bel o g (p.reverse ++ acc) e.1 e.2 := by
  intro E
  induction E with
  | nil => intro acc h; exact absurd trivial h
  | cons z E ih =>
    intro acc h
    by_cases hb : zt_bel o g acc z.1 z.2
    · exact ⟨[], z, E, rfl, hb⟩
    · obtain ⟨p, e, q, h1, h2⟩ := ih (z :: acc) (fun hn => h ⟨hb, hn⟩)
      refine ⟨z :: p, e, q, by rw [h1]; rfl, ?_⟩
      have : (z :: p).reverse ++ acc = p.reverse ++ z :: acc := by simp
      rw [this]; exact h2
theorem zt_val_lt : ∀ r : List Nat, (∀ t, t ∈ r → t < 3) → zt_val r < 4 ^ r.length := by
  intro r
  induction r with
  | nil => intro _; exact Nat.one_pos
  | cons t r ih =>
    intro h
    have h1 := ih fun x hx => h x (List.mem_cons_of_mem _ hx)
    have h2 := h t (by simp)
    show t * 4 ^ r.length + zt_val r < 4 ^ (r.length + 1)
    rw [Nat.pow_succ]
    have : t * 4 ^ r.length ≤ 2 * 4 ^ r.length := Nat.mul_le_mul_right _ (by omega)
    omega
theorem zt_val_dec {t u : Nat} {x y : List Nat} (hl : x.length = y.length) (hx : ∀ z, z ∈ x → z < 3) (h : t < u) : ∀ a : List Nat,
    zt_val (a ++ t :: x) < zt_val (a ++ u :: y) := by
  intro a
  induction a with
  | nil =>
    show t * 4 ^ x.length + zt_val x < u * 4 ^ y.length + zt_val y
    have h1 := zt_val_lt x hx
    rw [hl] at h1 ⊢
    have : (t + 1) * 4 ^ y.length ≤ u * 4 ^ y.length := Nat.mul_le_mul_right _ h
    rw [Nat.succ_mul] at this
    omega
  | cons z a ih =>
    show z * 4 ^ (a ++ t :: x).length + zt_val (a ++ t :: x) < z * 4 ^ (a ++ u :: y).length + zt_val (a ++ u :: y)
    have e : (a ++ t :: x).length = (a ++ u :: y).length := by simp [hl]
    rw [e]; omega
theorem zt_lex_val : ∀ (a b : List Nat), a.length = b.length → (∀ t, t ∈ b → t < 3) → zt_val a ≤ zt_val b → zt_lex a b := by
  intro a
  induction a with
  | nil =>
    intro b hl _ _
    cases b with
    | nil => exact Or.inl rfl
    | cons _ _ => simp at hl
  | cons t a ih =>
    intro b hl hb hv
    cases b with
    | nil => simp at hl
    | cons u b =>
      have hl' : a.length = b.length := by simpa using hl
      have hv' : t * 4 ^ a.length + zt_val a ≤ u * 4 ^ b.length + zt_val b := hv
      rw [hl'] at hv'
      have hlt := zt_val_lt b fun x hx => hb x (List.mem_cons_of_mem _ hx)
      rcases Nat.lt_trichotomy t u with h | h | h
      · exact Or.inr ⟨[], t, u, a, b, rfl, rfl, h⟩
      · subst h
        rcases ih b hl' (fun x hx => hb x (List.mem_cons_of_mem _ hx)) (by omega) with e | ⟨p, t', u', x, y, e1, e2, e3⟩
        · exact Or.inl (by rw [e])
        · exact Or.inr ⟨t :: p, t', u', x, y, by rw [e1]; rfl, by rw [e2]; rfl, e3⟩
      · exfalso
        have : (u + 1) * 4 ^ b.length ≤ t * 4 ^ b.length := Nat.mul_le_mul_right _ h
        rw [Nat.succ_mul] at this
        omega
/-- each row has a normal one that is alike and not behind it -/
theorem zt_normal (hK : zc_K o g L) (hV : zc_V o L c) : ∀ (N : Nat) (r : List Nat), zt_val r < N → zt_ok o g L c r →
    ∃ l, zt_ok o g L c l ∧ zt_run o g L c l = zt_run o g L c r ∧ zt_eqv o g (zt_lab o g L c r) (zt_lab o g L c l) ∧
      zt_nor o g [] (zt_lab o g L c l) ∧ l.length = r.length ∧ zt_val l ≤ zt_val r := by
  intro N
  induction N with
  | zero => intro r h; omega
  | succ N ih =>
    intro r hN hk
    by_cases hn : zt_nor o g [] (zt_lab o g L c r)
    · exact ⟨r, hk, rfl, zt_eqv_refl _, hn, rfl, Nat.le_refl _⟩
    · obtain ⟨p, e, q, h1, h2⟩ := zt_nnor _ _ hn
      rw [List.append_nil] at h2
      obtain ⟨p1, x, r1, h3, h4, h5⟩ := zt_bel_dec _ h2
      have h6 : p = r1.reverse ++ x :: p1.reverse := by
        have := congrArg List.reverse h3
        simpa using this
      rw [h6, List.append_assoc] at h1
      obtain ⟨a, b, e1, e2, e3⟩ := zt_lab_split _ _ r c h1
      obtain ⟨b1, b2, e4, e5, e6⟩ := zt_lab_split (x :: p1.reverse) (e :: q) b _ e3
      cases b2 with
      | nil => cases e6
      | cons t d =>
        injection e6 with e7 e8
        cases b1 with
        | nil => cases e5
        | cons x0 b1 =>
          have hx0 : x0 = x.1 := by injection e5 with e9 e10; rw [← e9]
          have ht : t = e.1 := by rw [← e7]
          have hka := (zt_ok_app a b c).mp (by rw [← e1]; exact hk)
          have hVa := zt_V_run hK a c hV hka.1
          have hkb := hka.2
          rw [e4] at hkb
          have hind : ∀ y, y ∈ zt_lab o g L (zt_run o g L c a) (x0 :: b1) →
              zt_ind o g y (t, zc_pc (zt_run o g L (zt_run o g L c a) (x0 :: b1)) t) := by
            intro y hy
            rw [e7]
            rw [e5] at hy
            refine h5 y ?_
            simp at hy ⊢
            exact hy.symm
          obtain ⟨m1, m2, m3, _⟩ := zt_move hK (x0 :: b1) _ hVa hkb hind
          have hlt : zt_val (a ++ t :: (x0 :: b1 ++ d)) < zt_val r := by
            rw [e1, e4]
            have hall := zt_ok_lt _ _ hkb
            refine zt_val_dec (t := t) (u := x0) (x := x0 :: b1 ++ d) (y := b1 ++ t :: d) (by simp; omega) (fun z hz => hall z ?_) (by rw [hx0, ht]; exact h4) a
            simp at hz ⊢
            rcases hz with hz | hz | hz
            · exact Or.inl hz
            · exact Or.inr (Or.inl hz)
            · exact Or.inr (Or.inr (Or.inr hz))
          obtain ⟨l, k1, k2, k3, k4, k5, k6⟩ := ih (a ++ t :: (x0 :: b1 ++ d)) (by omega) ((zt_ok_app _ _ _).mpr ⟨hka.1, m1⟩)
          refine ⟨l, k1, ?_, ?_, k4, ?_, by omega⟩
          · rw [k2, e1, e4, zt_run_app a, zt_run_app a, m2]
          · refine zt_eqv_trans ?_ k3
            rw [e1, zt_lab_app, zt_lab_app, e4]
            exact zt_eqv_app _ m3
          · rw [k5, e1, e4]; simp; omega
theorem zt_psi_run (hK : zc_K o g L) {t : Nat} (ht : t < 3) : ∀ (a : List Nat) (c : Nat → Nat), zc_V o L c → zt_ok o g L c a →
    zc_psi c t + zt_cnt t (zt_lab o g L c a) ≤ zc_psi (zt_run o g L c a) t := by
  intro a
  induction a with
  | nil => intro c _ _; exact Nat.le_refl _
  | cons x a ih =>
    intro c hV hk
    have h1 := ih _ (zc_V_step hK hV hk.1 hk.2.1) hk.2.2
    show zc_psi c t + ((if x = t then 1 else 0) + zt_cnt t (zt_lab o g L (zc_step o g L c x) a)) ≤ zc_psi (zt_run o g L (zc_step o g L c x) a) t
    by_cases e : x = t
    · subst e
      have h2 := zc_psi_s hK hV hk.1 hk.2.1
      rw [if_pos rfl]
      omega
    · have h2 := zc_psi_o (o := o) (g := g) (L := L) (c := c) ht (Ne.symm e)
      rw [if_neg e]
      omega
theorem zt_cnt_le (hK : zc_K o g L) (hV : zc_V o L c) {t : Nat} (ht : t < 3) {a : List Nat} (hk : zt_ok o g L c a) : zt_cnt t (zt_lab o g L c a) ≤ 10 := by
  have h1 := zt_psi_run hK ht a c hV hk
  have h2 := zc_psi_le hK (zt_V_run hK a c hV hk) ht
  omega
theorem zt_len : ∀ (a : List Nat) (c : Nat → Nat), zt_ok o g L c a →
    a.length = zt_cnt 0 (zt_lab o g L c a) + zt_cnt 1 (zt_lab o g L c a) + zt_cnt 2 (zt_lab o g L c a) := by
  intro a
  induction a with
  | nil => intro c _; rfl
  | cons x a ih =>
    intro c hk
    have h1 := ih _ hk.2.2
    have h2 := hk.1
    show a.length + 1 = ((if x = 0 then 1 else 0) + zt_cnt 0 (zt_lab o g L (zc_step o g L c x) a)) + ((if x = 1 then 1 else 0) + zt_cnt 1 (zt_lab o g L (zc_step o g L c x) a)) + ((if x = 2 then 1 else 0) + zt_cnt 2 (zt_lab o g L (zc_step o g L c x) a))
    have : x = 0 ∨ x = 1 ∨ x = 2 := by omega
    rcases this with e | e | e <;> subst e <;> simp <;> omega
theorem zt_len30 (hK : zc_K o g L) (hV : zc_V o L c) {a : List Nat} (hk : zt_ok o g L c a) :
    zc_psi c 0 + zc_psi c 1 + zc_psi c 2 + a.length ≤ 30 := by
  have h0 := zt_psi_run hK (t := 0) (by omega) a c hV hk
  have h1 := zt_psi_run hK (t := 1) (by omega) a c hV hk
  have h2 := zt_psi_run hK (t := 2) (by omega) a c hV hk
  have hV' := zt_V_run hK a c hV hk
  have k0 := zc_psi_le hK hV' (t := 0) (by omega)
  have k1 := zc_psi_le hK hV' (t := 1) (by omega)
  have k2 := zc_psi_le hK hV' (t := 2) (by omega)
  have := zt_len a c hk
  omega
def zt_end (o g L c : Nat → Nat) : Prop := ∀ t, t < 3 → ¬ zc_R o g L c t
/-- each state comes to an end -/
theorem zt_compl (hK : zc_K o g L) : ∀ (N : Nat) (c : Nat → Nat), zc_V o L c → 31 ≤ N + (zc_psi c 0 + zc_psi c 1 + zc_psi c 2) →
    ∃ v, zt_ok o g L c v ∧ zt_end o g L (zt_run o g L c v) := by
  intro N
  induction N with
  | zero =>
    intro c hV h
    have k0 := zc_psi_le hK hV (t := 0) (by omega)
    have k1 := zc_psi_le hK hV (t := 1) (by omega)
    have k2 := zc_psi_le hK hV (t := 2) (by omega)
    omega
  | succ N ih =>
    intro c hV h
    by_cases he : zt_end o g L c
    · exact ⟨[], trivial, he⟩
    · have : ∃ t, t < 3 ∧ zc_R o g L c t := by
        refine Classical.byContradiction fun hn => he fun t ht hR => hn ⟨t, ht, hR⟩
      obtain ⟨t, ht, hR⟩ := this
      have h1 := zc_psi_all hK hV ht hR
      obtain ⟨v, hv1, hv2⟩ := ih _ (zc_V_step hK hV ht hR) (by omega)
      exact ⟨t :: v, ⟨ht, hR, hv1⟩, hv2⟩
/-- what a row that the walk has left has been counted by -/
def zt_by (o g L c : Nat → Nat) (w l : List Nat) : Prop := ∃ v, zt_ok o g L c (w ++ v) ∧ zt_eqv o g (zt_lab o g L c (w ++ v)) (zt_lab o g L c l)
theorem zt_left (hK : zc_K o g L) (hV : zc_V o L c) {w : List Nat} (hk : zt_ok o g L c w) :
    ∃ l v, zt_ok o g L c l ∧ zt_end o g L (zt_run o g L c l) ∧ zt_nor o g [] (zt_lab o g L c l) ∧ zt_by o g L c w l ∧ zt_lex l (w ++ v) := by
  obtain ⟨v, hv1, hv2⟩ := zt_compl hK 31 (zt_run o g L c w) (zt_V_run hK w c hV hk) (by omega)
  have hkv : zt_ok o g L c (w ++ v) := (zt_ok_app _ _ _).mpr ⟨hk, hv1⟩
  obtain ⟨l, k1, k2, k3, k4, k5, k6⟩ := zt_normal hK hV _ (w ++ v) (Nat.lt_succ_self _) hkv
  refine ⟨l, v, k1, ?_, k4, ⟨v, hkv, k3⟩, zt_lex_val l (w ++ v) k5 (zt_ok_lt _ _ hkv) k6⟩
  rw [k2, zt_run_app]; exact hv2
theorem zt_by_inj {w1 w2 l : List Nat} (h1 : zt_by o g L c w1 l) (h2 : zt_by o g L c w2 l)
    (n1 : zt_nor o g [] (zt_lab o g L c w1)) (n2 : zt_nor o g [] (zt_lab o g L c w2))
    (hc : ∀ t, zt_cnt t (zt_lab o g L c w1) = zt_cnt t (zt_lab o g L c w2)) : w1 = w2 := by
  obtain ⟨v1, _, e1⟩ := h1
  obtain ⟨v2, _, e2⟩ := h2
  rw [zt_lab_app] at e1 e2
  exact zt_lab_inj (zt_uniq _ _ _ _ (zt_eqv_trans e1 (zt_eqv_sym e2)) n1 n2 hc)
end
/-- pigeonholes -/
theorem zt_holes {α : Type} (R : α → Nat → Prop) (N : Nat) (hR : ∀ x y n, R x n → R y n → x = y) : ∀ G : List α, G.Nodup → (∀ x, x ∈ G → ∃ n, n < N ∧ R x n) →
    ∃ cs : List Nat, cs.length = G.length ∧ cs.Nodup ∧ ∀ n, n ∈ cs → n < N ∧ ∃ x, x ∈ G ∧ R x n := by
  intro G
  induction G with
  | nil => intro _ _; exact ⟨[], rfl, List.nodup_nil, fun n hn => by simp at hn⟩
  | cons x G ih =>
    intro hd ha
    have hd' := List.nodup_cons.mp hd
    obtain ⟨cs, h1, h2, h3⟩ := ih hd'.2 fun y hy => ha y (List.mem_cons_of_mem _ hy)
    obtain ⟨n, hn, hr⟩ := ha x (by simp)
    refine ⟨n :: cs, by simp [h1], List.nodup_cons.mpr ⟨fun hm => ?_, h2⟩, fun m hm => ?_⟩
    · obtain ⟨_, y, hy, hr'⟩ := h3 n hm
      exact hd'.1 (hR x y n hr hr' ▸ hy)
    · rcases List.mem_cons.mp hm with e | e
      · subst e; exact ⟨hn, x, by simp, hr⟩
      · obtain ⟨k1, y, k2, k3⟩ := h3 m e
        exact ⟨k1, y, List.mem_cons_of_mem _ k2, k3⟩
theorem zt_holes_le {α : Type} (R : α → Nat → Prop) (N : Nat) (hR : ∀ x y n, R x n → R y n → x = y) (G : List α) (hd : G.Nodup) (ha : ∀ x, x ∈ G → ∃ n, n < N ∧ R x n) :
    G.length ≤ N := by
  obtain ⟨cs, h1, h2, h3⟩ := zt_holes R N hR G hd ha
  have := List.Nodup.length_le_of_subset h2 (l₂ := List.range N) (fun n hn => List.mem_range.mpr (h3 n hn).1)
  rw [List.length_range] at this
  omega
section
variable {o g L : Nat → Nat} {c : Nat → Nat}
/-- the rows that the walk has left are at most 1331 times as many as the runs that it has counted -/
theorem zt_bound (hK : zc_K o g L) (hV : zc_V o L c) (G C : List (List Nat)) (hd : G.Nodup)
    (hG : ∀ w, w ∈ G → zt_ok o g L c w ∧ zt_nor o g [] (zt_lab o g L c w) ∧ ∃ l, l ∈ C ∧ zt_by o g L c w l) : G.length ≤ C.length * 1331 := by
  refine zt_holes_le (fun w n => zt_ok o g L c w ∧ zt_nor o g [] (zt_lab o g L c w) ∧ ∃ l, C[n / 1331]? = some l ∧ zt_by o g L c w l ∧
    n % 1331 = 121 * zt_cnt 0 (zt_lab o g L c w) + 11 * zt_cnt 1 (zt_lab o g L c w) + zt_cnt 2 (zt_lab o g L c w)) _ ?_ G hd ?_
  · rintro x y n ⟨a1, a2, l, a3, a4, a5⟩ ⟨b1, b2, l', b3, b4, b5⟩
    have el : l = l' := by rw [a3] at b3; injection b3
    subst el
    have x0 := zt_cnt_le hK hV (t := 0) (by omega) a1
    have x1 := zt_cnt_le hK hV (t := 1) (by omega) a1
    have x2 := zt_cnt_le hK hV (t := 2) (by omega) a1
    have y0 := zt_cnt_le hK hV (t := 0) (by omega) b1
    have y1 := zt_cnt_le hK hV (t := 1) (by omega) b1
    have y2 := zt_cnt_le hK hV (t := 2) (by omega) b1
    rw [a5] at b5
    refine zt_by_inj a4 b4 a2 b2 fun t => ?_
    by_cases h0 : t = 0
    · subst h0; omega
    by_cases h1 : t = 1
    · subst h1; omega
    by_cases h2 : t = 2
    · subst h2; omega
    have hz : ∀ w, zt_ok o g L c w → zt_cnt t (zt_lab o g L c w) = 0 := by
      intro w hw
      refine zt_cnt0 fun z hz => ?_
      have hm : z.1 ∈ (zt_lab o g L c w).map Prod.fst := List.mem_map_of_mem hz
      rw [zt_lab_fst] at hm
      have := zt_ok_lt w c hw z.1 hm
      omega
    rw [hz x a1, hz y b1]
  · intro w hw
    obtain ⟨h1, h2, l, h3, h4⟩ := hG w hw
    have x0 := zt_cnt_le hK hV (t := 0) (by omega) h1
    have x1 := zt_cnt_le hK hV (t := 1) (by omega) h1
    have x2 := zt_cnt_le hK hV (t := 2) (by omega) h1
    obtain ⟨i, hi, he⟩ := List.mem_iff_getElem.mp h3
    generalize e0 : zt_cnt 0 (zt_lab o g L c w) = n0 at *
    generalize e1 : zt_cnt 1 (zt_lab o g L c w) = n1 at *
    generalize e2 : zt_cnt 2 (zt_lab o g L c w) = n2 at *
    refine ⟨i * 1331 + (121 * n0 + 11 * n1 + n2), by omega, h1, h2, l, ?_, h4, by omega⟩
    have : (i * 1331 + (121 * n0 + 11 * n1 + n2)) / 1331 = i := by omega
    rw [this, List.getElem?_eq_getElem hi, he]
end
