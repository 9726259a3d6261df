/-! the component: cells, packing, readiness -/
def zx_E (c : Nat → Nat) (a : Nat → Int32) : Prop := ∀ i, i < 16 → a i = nI (c i)
def zx_C (o g L : Nat → Nat) (a_ops a_args a_len : Nat → Int32) : Prop :=
  zc_K o g L ∧ (∀ i, i < 15 → a_ops i = nI (o i)) ∧ (∀ i, i < 15 → a_args i = nI (g i)) ∧ ∀ t, t < 3 → a_len t = nI (L t)
/-- a set of threads as a number -/
def zx_M (m : Nat) (P : Nat → Prop) : Prop := m < 8 ∧ ∀ u, u < 3 → (m.testBit u = true ↔ P u)
theorem zx_M_uniq {m m' : Nat} {P : Nat → Prop} (h : zx_M m P) (h' : zx_M m' P) : m = m' := by
  apply Nat.eq_of_testBit_eq
  intro i
  by_cases hi : i < 3
  · have a := h.2 i hi
    have b := h'.2 i hi
    cases e1 : m.testBit i <;> cases e2 : m'.testBit i
    · rfl
    · rw [e1] at a; rw [e2] at b; exact absurd (a.mpr (b.mp rfl)) (by decide)
    · rw [e1] at a; rw [e2] at b; exact absurd (b.mpr (a.mp rfl)) (by decide)
    · rfl
  · have p8 : 8 ≤ 2 ^ i := by
      have := Nat.pow_le_pow_right (n := 2) (by omega) (show 3 ≤ i by omega)
      omega
    rw [Nat.testBit_lt_two_pow (by have := h.1; omega), Nat.testBit_lt_two_pow (by have := h'.1; omega)]
theorem zx_M_0 {m : Nat} {P : Nat → Prop} (h : zx_M m P) : m = 0 ↔ ∀ u, u < 3 → ¬ P u := by
  constructor
  · intro e u hu hp
    have := (h.2 u hu).mpr hp
    rw [e] at this
    simp at this
  · intro hn
    refine zx_M_uniq h ⟨by omega, fun u hu => ?_⟩
    simp [hn u hu]
theorem zx_or : ∀ t, t < 3 → ∀ m, m < 8 → nI m ||| ((1 : Int32) <<< (nI t &&& 31)) = nI (m ||| 2 ^ t) := by decide +kernel
theorem zx_or8 : ∀ t, t < 3 → ∀ m, m < 8 → m ||| 2 ^ t < 8 := by decide
theorem zx_bit : ∀ t, t < 3 → ∀ m, m < 8 → (((nI m >>> (nI t &&& 31)) &&& 1) = 0 ↔ m.testBit t = false) := by decide +kernel
theorem zx_M_or {m n : Nat} {P : Nat → Prop} (h : m < 8) (hb : ∀ u, u < 3 → (m.testBit u = true ↔ u < n ∧ P u)) (hn : n < 3) (hp : P n) :
    m ||| 2 ^ n < 8 ∧ ∀ u, u < 3 → ((m ||| 2 ^ n).testBit u = true ↔ u < n + 1 ∧ P u) := by
  refine ⟨zx_or8 n hn m h, fun u hu => ?_⟩
  rw [Nat.testBit_or, Nat.testBit_two_pow, Bool.or_eq_true, decide_eq_true_iff, hb u hu]
  constructor
  · rintro (h | h)
    · exact ⟨by omega, h.2⟩
    · subst h; exact ⟨by omega, hp⟩
  · rintro ⟨h1, h2⟩
    by_cases e : n = u
    · exact Or.inr e
    · exact Or.inl ⟨by omega, h2⟩
theorem zx_M_no {m n : Nat} {P : Nat → Prop} (hb : ∀ u, u < 3 → (m.testBit u = true ↔ u < n ∧ P u)) (hp : ¬ P n) :
    ∀ u, u < 3 → (m.testBit u = true ↔ u < n + 1 ∧ P u) := by
  intro u hu
  rw [hb u hu]
  constructor
  · rintro ⟨h1, h2⟩; exact ⟨by omega, h2⟩
  · rintro ⟨h1, h2⟩
    refine ⟨?_, h2⟩
    by_cases e : u = n
    · subst e; exact absurd h2 hp
    · omega
section
variable {o g L c : Nat → Nat} {a a_ops a_args a_len : Nat → Int32}
theorem zx_at {x : Int32} {k : Nat} (hE : zx_E c a) (hx : x = nI k) (hk : k < 16) : a x.toNatClampNeg = nI (c k) := by
  rw [hx, nI_clamp (by omega)]; exact hE k hk
theorem zx_Eu {x v : Int32} {k w : Nat} (hE : zx_E c a) (hx : x = nI k) (hk : k < 2 ^ 31) (hv : v = nI w) : zx_E (zc_up c k w) (upd a x.toNatClampNeg v) := by
  intro i hi
  rw [hx, nI_clamp hk]
  unfold upd zc_up
  split
  · exact hv
  · exact hE i hi
theorem zx_op (hC : zx_C o g L a_ops a_args a_len) {x : Int32} {k : Nat} (hx : x = nI k) (hk : k < 15) : a_ops x.toNatClampNeg = nI (o k) := by
  rw [hx, nI_clamp (by omega)]; exact hC.2.1 k hk
theorem zx_ar (hC : zx_C o g L a_ops a_args a_len) {x : Int32} {k : Nat} (hx : x = nI k) (hk : k < 15) : a_args x.toNatClampNeg = nI (g k) := by
  rw [hx, nI_clamp (by omega)]; exact hC.2.2.1 k hk
theorem zx_ln (hC : zx_C o g L a_ops a_args a_len) {x : Int32} {t : Nat} (hx : x = nI t) (ht : t < 3) : a_len x.toNatClampNeg = nI (L t) := by
  rw [hx, nI_clamp (by omega)]; exact hC.2.2.2 t ht
theorem zx_L5 (hC : zx_C o g L a_ops a_args a_len) : ∀ t, t < 3 → L t ≤ 5 := fun t ht => (hC.1 t ht).1
theorem zx_pc (t p : Nat) : nI t * 5 + nI p = nI (5 * t + p) := by
  have e : nI t * 5 = nI (t * 5) := pk_mul t 5
  rw [e, nI_add, Nat.mul_comm]
theorem zy_pc (t p : Nat) : 5 * nI t + nI p = nI (5 * t + p) := by
  have e : 5 * nI t = nI (5 * t) := pk_mul 5 t
  rw [e, nI_add]
theorem zx_a7 (t : Nat) : 7 + nI t = nI (7 + t) := nI_add 7 t
theorem zx_a4 (t : Nat) : 4 + nI t = nI (4 + t) := nI_add 4 t
theorem zx_a10 (t : Nat) : 10 + nI t = nI (10 + t) := nI_add 10 t
theorem zx_a12 (t : Nat) : 12 + nI t = nI (12 + t) := nI_add 12 t
end
section
variable {o g L c : Nat → Nat} {t : Nat} {f_steps f_foundCount : Int32} {a_ops a_args a_codeLength a_cell a_cameFrom a_cameBy a_distance a_slots a_isEnding a_walkLeft a_walkAsleep : Nat → Int32} {a_trail a_found a_walkState : Nat → Int64}
theorem zx_place {post : SX → Prop} {n : Nat} (hC : zx_C o g L a_ops a_args a_codeLength) (ht : t < 3) (hE : zx_E c a_cell) (hn : n < 2 ^ 31)
    (hp : ∀ a', zx_E (zc_up c (7 + t) (zc_pl L t n)) a' → post (f_steps, f_foundCount, a_ops, a_args, a_codeLength, a_trail, a', a_found, a_cameFrom, a_cameBy, a_distance, a_slots, a_isEnding, a_walkState, a_walkLeft, a_walkAsleep)) : wpX_place post (f_steps, f_foundCount, a_ops, a_args, a_codeLength, a_trail, a_cell, a_found, a_cameFrom, a_cameBy, a_distance, a_slots, a_isEnding, a_walkState, a_walkLeft, a_walkAsleep) (nI t) (nI n) := by
  have hL := (hC.1 t ht).1
  refine And.intro (pk_in t 3 ht) (pk_le (L t) n (fun h => ?_) (fun h => ?_) (zx_ln hC rfl ht) rfl (by omega) hn)
  · refine And.intro (pk_in (7 + t) 16 (by omega) (zx_a7 t)) (nm_e (hp _ ?_))
    have e : zc_pl L t n = 5 := by unfold zc_pl; rw [if_neg (by omega)]
    rw [e]
    exact zx_Eu hE (zx_a7 t) (by omega) rfl
  · refine And.intro (pk_in (7 + t) 16 (by omega) (zx_a7 t)) (nm_e (hp _ ?_))
    have e : zc_pl L t n = n := by unfold zc_pl; rw [if_pos h]
    rw [e]
    exact zx_Eu hE (zx_a7 t) (by omega) rfl
theorem zx_packed {post : Int64 → Prop} (hE : zx_E c a_cell) (hB : ∀ j, c j < 8) (hp : post (lN (zp_X c))) : wpX_packed post (f_steps, f_foundCount, a_ops, a_args, a_codeLength, a_trail, a_cell, a_found, a_cameFrom, a_cameBy, a_distance, a_slots, a_isEnding, a_walkState, a_walkLeft, a_walkAsleep) := by
  have key : ∀ k, k ≤ 16 → wX_packed_5 post f_steps f_foundCount a_ops a_args a_codeLength a_trail a_cell a_found a_cameFrom a_cameBy a_distance a_slots a_isEnding a_walkState a_walkLeft a_walkAsleep (k + 1) (lN (zp_k (fun _ => 3) c k (16 - k))) (nI k + (-1)) := by
    intro k
    induction k with
    | zero =>
      intro _
      exact br_t (by decide) hp
    | succ k ih =>
      intro hk
      rw [pk_m1]
      refine br_f (nI_pos (by omega)) (And.intro (pk_in k 16 (by omega)) (nm_r ?_ (nm_e (ih (by omega)))))
      have e1 : 16 - k = 16 - (k + 1) + 1 := by omega
      have hlt : zp_k (fun _ => 3) c k (16 - k) < 2 ^ zp_s (fun _ => 3) k (16 - k) := zp_lt _ _ hB
      have h48 : zp_s (fun _ => 3) k (16 - k) ≤ 48 := by
        have : ∀ n i, zp_s (fun _ => 3) i n = 3 * n := by
          intro n
          induction n with
          | zero => intro i; rfl
          | succ n ih => intro i; show 3 + zp_s (fun _ => 3) (i + 1) n = _; rw [ih]; omega
        rw [this]; omega
      have h63 : zp_k (fun _ => 3) c k (16 - k) < 2 ^ 63 :=
        Nat.lt_of_lt_of_le hlt (Nat.pow_le_pow_right (by omega) (by omega))
      rw [e1] at h63 ⊢
      rw [zx_at hE rfl (by omega)]
      exact zp_on (hB k) h63
  exact ⟨17, key 16 (Nat.le_refl _)⟩
theorem zx_unpack {post : SX → Prop} (hB : ∀ j, c j < 8) (hp : ∀ a', zx_E c a' → post (f_steps, f_foundCount, a_ops, a_args, a_codeLength, a_trail, a', a_found, a_cameFrom, a_cameBy, a_distance, a_slots, a_isEnding, a_walkState, a_walkLeft, a_walkAsleep)) : wpX_unpack post (f_steps, f_foundCount, a_ops, a_args, a_codeLength, a_trail, a_cell, a_found, a_cameFrom, a_cameBy, a_distance, a_slots, a_isEnding, a_walkState, a_walkLeft, a_walkAsleep) (lN (zp_X c)) := by
  have hs : ∀ n i, zp_s (fun _ => 3) i n = 3 * n := by
    intro n
    induction n with
    | zero => intro i; rfl
    | succ n ih => intro i; show 3 + zp_s (fun _ => 3) (i + 1) n = _; rw [ih]; omega
  have key : ∀ d i (a' : Nat → Int32), i + d = 16 → (∀ j, j < i → a' j = nI (c j)) →
      wX_unpack_5 post f_steps f_foundCount (d + 1) (lN (zp_k (fun _ => 3) c i d)) (nI i) a_ops a_args a_codeLength a_trail a' a_found a_cameFrom a_cameBy a_distance a_slots a_isEnding a_walkState a_walkLeft a_walkAsleep := by
    intro d
    induction d with
    | zero =>
      intro i a' hi ha
      have e : i = 16 := by omega
      subst e
      exact br_t (by decide) (hp a' ha)
    | succ d ih =>
      intro i a' hi ha
      have h63 : zp_k (fun _ => 3) c i (d + 1) < 2 ^ 63 :=
        Nat.lt_of_lt_of_le (zp_lt _ _ hB) (Nat.pow_le_pow_right (by omega) (by rw [hs]; omega))
      have ho := zp_off (hB i) h63
      refine br_f (nI_ge (b := 16) (by omega) (by decide)) (And.intro (pk_in i 16 (by omega)) (nm_e (nm_r ho.2 (nm_r (nI_1 i) (ih (i + 1) _ (by omega) fun j hj => ?_)))))
      rw [nI_clamp (by omega)]
      unfold upd
      by_cases e : j = i
      · rw [if_pos e, e]; exact ho.1
      · rw [if_neg e]; exact ha j (by omega)
  exact ⟨17, key 16 0 a_cell rfl (fun j hj => by omega)⟩
theorem zx_hasEnded {post : Int32 → Prop} (hC : zx_C o g L a_ops a_args a_codeLength) (ht : t < 3) (hE : zx_E c a_cell) (hB : ∀ j, c j < 8)
    (h0 : c (7 + t) < L t → post 0) (h1 : ¬ c (7 + t) < L t → post 1) : wpX_hasEnded post (f_steps, f_foundCount, a_ops, a_args, a_codeLength, a_trail, a_cell, a_found, a_cameFrom, a_cameBy, a_distance, a_slots, a_isEnding, a_walkState, a_walkLeft, a_walkAsleep) (nI t) := by
  have hL := (hC.1 t ht).1
  have hb := hB (7 + t)
  exact And.intro (pk_in (7 + t) 16 (by omega) (zx_a7 t)) (And.intro (pk_in t 3 ht)
    (pk_lt (c (7 + t)) (L t) h0 (fun h => h1 (by omega)) (zx_at hE (zx_a7 t) (by omega)) (zx_ln hC rfl ht) (by omega) (by omega)))
theorem zx_isReady {post : Int32 → Prop} (hC : zx_C o g L a_ops a_args a_codeLength) (hV : zc_V o L c) (ht : t < 3) (hE : zx_E c a_cell)
    (h1 : zc_R o g L c t → post 1) (h0 : ¬ zc_R o g L c t → post 0) : wpX_isReady post (f_steps, f_foundCount, a_ops, a_args, a_codeLength, a_trail, a_cell, a_found, a_cameFrom, a_cameBy, a_distance, a_slots, a_isEnding, a_walkState, a_walkLeft, a_walkAsleep) (nI t) := by
  have hB := zp_bX (zx_L5 hC) hV
  have hb12 := hB (12 + t)
  have hL := (hC.1 t ht).1
  have i12 : vp_in (12 + nI t) 16 := pk_in (12 + t) 16 (by omega) (zx_a12 t)
  have c12 := zx_at hE (zx_a12 t) (show 12 + t < 16 by omega)
  unfold wpX_isReady
  refine zx_hasEnded hC ht hE hB (fun hp => br_t rfl (And.intro i12 ?_)) (fun hp => br_f (by decide) (h0 fun hR => hp hR.1))
  refine pk_eq (c (12 + t)) 1 (fun e => h0 fun hR => hR.2.1 e) (fun e1 => ?_) c12 rfl (by omega) (by omega)
  refine And.intro (pk_in (7 + t) 16 (by omega) (zx_a7 t)) (nm_r (e' := nI (zc_pc c t)) (by rw [zx_at hE (zx_a7 t) (by omega), zx_pc]; rfl) ?_)
  have hk : zc_pc c t < 15 := by unfold zc_pc; omega
  have hG := (hC.1 t ht).2 _ hp
  have hop := zx_op hC (rfl : nI (zc_pc c t) = nI (zc_pc c t)) hk
  have har := zx_ar hC (rfl : nI (zc_pc c t) = nI (zc_pc c t)) hk
  have ho11 : o (zc_pc c t) ≤ 11 := hG.1
  have hlock : (o (zc_pc c t) = 7 ∨ c (12 + t) = 2) → wX_isReady_61 post (nI (zc_pc c t)) f_steps f_foundCount a_ops a_args a_codeLength a_trail a_cell a_found a_cameFrom a_cameBy a_distance a_slots a_isEnding a_walkState a_walkLeft a_walkAsleep := by
    intro hl
    have h2 : g (zc_pc c t) < 2 := by
      refine hG.2.2.2.1 ?_
      rcases hl with h | h
      · exact Or.inl h
      · rcases hV.2.2.2.1 t ht with h3 | h3
        · omega
        · exact Or.inr (Or.inr (Or.inl h3.2.2))
    have e10 : 10 + a_args (nI (zc_pc c t)).toNatClampNeg = nI (10 + g (zc_pc c t)) := by rw [har]; exact zx_a10 _
    have hb10 := hB (10 + g (zc_pc c t))
    refine br_f (by decide) (And.intro (pk_in _ 15 hk) (And.intro (pk_in _ 16 (by omega) e10) ?_))
    exact pk_eq (c (10 + g (zc_pc c t))) 0 (fun e => h1 ⟨hp, e1, fun _ => e⟩) (fun e => h0 fun hR => e (hR.2.2 hl)) (zx_at hE e10 (by omega)) rfl (by omega) (by omega)
  refine And.intro (pk_in _ 15 hk) (pk_eq (o (zc_pc c t)) 7 (fun e => hlock (Or.inl e)) (fun e7 => And.intro i12 ?_) hop rfl (by omega) (by omega))
  refine pk_eq (c (12 + t)) 2 (fun e => hlock (Or.inr e)) (fun e2 => ?_) c12 rfl (by omega) (by omega)
  exact br_t rfl (h1 ⟨hp, e1, fun h => absurd h (by omega)⟩)
theorem zx_readyThreads {post : Int32 → Prop} (hC : zx_C o g L a_ops a_args a_codeLength) (hV : zc_V o L c) (hE : zx_E c a_cell)
    (hp : ∀ m, zx_M m (zc_R o g L c) → post (nI m)) : wpX_readyThreads post (f_steps, f_foundCount, a_ops, a_args, a_codeLength, a_trail, a_cell, a_found, a_cameFrom, a_cameBy, a_distance, a_slots, a_isEnding, a_walkState, a_walkLeft, a_walkAsleep) := by
  have key : ∀ d n m, n + d = 3 → m < 8 → (∀ u, u < 3 → (m.testBit u = true ↔ u < n ∧ zc_R o g L c u)) →
      wX_readyThreads_4 post f_steps f_foundCount a_ops a_args a_codeLength a_trail a_cell a_found a_cameFrom a_cameBy a_distance a_slots a_isEnding a_walkState a_walkLeft a_walkAsleep (d + 1) (nI m) (nI n) := by
    intro d
    induction d with
    | zero =>
      intro n m hn hm hb
      have e : n = 3 := by omega
      subst e
      refine br_t (by decide) (hp m ⟨hm, fun u hu => ?_⟩)
      rw [hb u hu]
      exact ⟨fun h => h.2, fun h => ⟨hu, h⟩⟩
    | succ d ih =>
      intro n m hn hm hb
      refine br_f (nI_ge (b := 3) (by omega) (by decide)) (zx_isReady hC hV (by omega) hE (fun hR => br_f (by decide) ?_) (fun hR => br_t rfl ?_))
      · have hx := zx_M_or hm hb (by omega) hR
        exact nm_r (zx_or n (by omega) m hm) (nm_r (nI_1 n) (ih (n + 1) _ (by omega) hx.1 hx.2))
      · exact nm_r (nI_1 n) (ih (n + 1) m (by omega) hm (zx_M_no hb hR))
  exact ⟨4, key 3 0 0 rfl (by omega) (fun u hu => by simp)⟩
theorem zx_haveAllEnded {post : Int32 → Prop} (hC : zx_C o g L a_ops a_args a_codeLength) (hE : zx_E c a_cell) (hB : ∀ j, c j < 8)
    (h1 : (∀ t, t < 3 → ¬ c (7 + t) < L t) → post 1) (h0 : ¬ (∀ t, t < 3 → ¬ c (7 + t) < L t) → post 0) : wpX_haveAllEnded post (f_steps, f_foundCount, a_ops, a_args, a_codeLength, a_trail, a_cell, a_found, a_cameFrom, a_cameBy, a_distance, a_slots, a_isEnding, a_walkState, a_walkLeft, a_walkAsleep) := by
  unfold wpX_haveAllEnded
  refine zx_hasEnded (t := 0) hC (by omega) hE hB (fun a0 => br_t rfl (h0 fun h => h 0 (by omega) a0)) (fun a0 => br_f (by decide) ?_)
  refine zx_hasEnded (t := 1) hC (by omega) hE hB (fun a1 => br_t rfl (h0 fun h => h 1 (by omega) a1)) (fun a1 => br_f (by decide) ?_)
  refine zx_hasEnded (t := 2) hC (by omega) hE hB (fun a2 => br_t rfl (h0 fun h => h 2 (by omega) a2)) (fun a2 => br_f (by decide) (h1 fun t ht => ?_))
  have : t = 0 ∨ t = 1 ∨ t = 2 := by omega
  rcases this with e | e | e <;> subst e <;> assumption
end
