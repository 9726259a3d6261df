/-! cells in one number: each cell i takes w i bits -/
def zp_s (w : Nat → Nat) : Nat → Nat → Nat
  | _, 0 => 0
  | i, n + 1 => w i + zp_s w (i + 1) n
def zp_k (w c : Nat → Nat) : Nat → Nat → Nat
  | _, 0 => 0
  | i, n + 1 => c i + 2 ^ w i * zp_k w c (i + 1) n
theorem zp_lt {w c : Nat → Nat} : ∀ n i, (∀ j, c j < 2 ^ w j) → zp_k w c i n < 2 ^ zp_s w i n := by
  intro n
  induction n with
  | zero => intro i _; exact Nat.one_pos
  | succ n ih =>
    intro i h
    show c i + 2 ^ w i * zp_k w c (i + 1) n < 2 ^ (w i + zp_s w (i + 1) n)
    rw [Nat.pow_add]
    have h1 := ih (i + 1) h
    have h2 := h i
    have h3 : 2 ^ w i * (zp_k w c (i + 1) n + 1) ≤ 2 ^ w i * 2 ^ zp_s w (i + 1) n := Nat.mul_le_mul_left _ h1
    rw [Nat.mul_add, Nat.mul_one] at h3
    omega
theorem zp_get {w c : Nat → Nat} (h : ∀ j, c j < 2 ^ w j) : ∀ k i n, k < n → zp_k w c i n / 2 ^ zp_s w i k % 2 ^ w (i + k) = c (i + k) := by
  intro k
  induction k with
  | zero =>
    intro i n hn
    cases n with
    | zero => omega
    | succ n =>
      show (c i + 2 ^ w i * zp_k w c (i + 1) n) / 2 ^ 0 % 2 ^ w i = c i
      rw [Nat.pow_zero, Nat.div_one, Nat.add_mul_mod_self_left, Nat.mod_eq_of_lt (h i)]
  | succ k ih =>
    intro i n hn
    cases n with
    | zero => omega
    | succ n =>
      have e := ih (i + 1) n (by omega)
      have e1 : i + 1 + k = i + (k + 1) := by omega
      rw [e1] at e
      show (c i + 2 ^ w i * zp_k w c (i + 1) n) / 2 ^ (w i + zp_s w (i + 1) k) % 2 ^ w (i + (k + 1)) = c (i + (k + 1))
      rw [Nat.pow_add, ← Nat.div_div_eq_div_mul, Nat.add_mul_div_left _ _ (Nat.two_pow_pos _), Nat.div_eq_of_lt (h i), Nat.zero_add]
      exact e
theorem zp_o {w c : Nat → Nat} {k v : Nat} : ∀ n i, k < i → zp_k w (zc_up c k v) i n = zp_k w c i n := by
  intro n
  induction n with
  | zero => intro i _; rfl
  | succ n ih =>
    intro i h
    show zc_up c k v i + 2 ^ w i * zp_k w (zc_up c k v) (i + 1) n = c i + 2 ^ w i * zp_k w c (i + 1) n
    rw [ih (i + 1) (by omega), zc_up_n (by omega)]
/-- one cell of the number, and how the number changes with it -/
theorem zp_put {w c : Nat → Nat} (h : ∀ j, c j < 2 ^ w j) : ∀ k i n, k < n → ∃ lo hi, lo < 2 ^ zp_s w i k ∧
    ∀ v, zp_k w (zc_up c (i + k) v) i n = lo + 2 ^ zp_s w i k * (v + 2 ^ w (i + k) * hi) := by
  intro k
  induction k with
  | zero =>
    intro i n hn
    cases n with
    | zero => omega
    | succ n =>
      refine ⟨0, zp_k w c (i + 1) n, Nat.one_pos, fun v => ?_⟩
      show zc_up c i v i + 2 ^ w i * zp_k w (zc_up c i v) (i + 1) n = 0 + 2 ^ 0 * (v + 2 ^ w i * zp_k w c (i + 1) n)
      rw [zp_o n (i + 1) (by omega), zc_up_s, Nat.pow_zero, Nat.one_mul, Nat.zero_add]
  | succ k ih =>
    intro i n hn
    cases n with
    | zero => omega
    | succ n =>
      obtain ⟨lo, hi, h1, h2⟩ := ih (i + 1) n (by omega)
      have e1 : i + 1 + k = i + (k + 1) := by omega
      rw [e1] at h2
      refine ⟨c i + 2 ^ w i * lo, hi, ?_, fun v => ?_⟩
      · show _ < 2 ^ (w i + zp_s w (i + 1) k)
        rw [Nat.pow_add]
        have h3 := h i
        have h4 : 2 ^ w i * (lo + 1) ≤ 2 ^ w i * 2 ^ zp_s w (i + 1) k := Nat.mul_le_mul_left _ h1
        rw [Nat.mul_add, Nat.mul_one] at h4
        omega
      · show zc_up c (i + (k + 1)) v i + 2 ^ w i * zp_k w (zc_up c (i + (k + 1)) v) (i + 1) n = _
        rw [h2 v, zc_up_n (by omega)]
        show _ = c i + 2 ^ w i * lo + 2 ^ (w i + zp_s w (i + 1) k) * (v + 2 ^ w (i + (k + 1)) * hi)
        rw [Nat.pow_add, Nat.mul_add, Nat.mul_assoc, Nat.add_assoc]
theorem zp_self {c : Nat → Nat} {k : Nat} : zc_up c k (c k) = c := by
  funext j
  unfold zc_up
  split
  · rename_i h; rw [h]
  · rfl
/-- the component's number of a state, and the reference's -/
def zp_X (c : Nat → Nat) : Nat := zp_k (fun _ => 3) c 0 16
def zp_w (j : Nat) : Nat := if j < 10 then 3 else if j < 15 then 2 else 1
def zp_Y (c : Nat → Nat) : Nat := zp_k zp_w c 0 16
section
variable {o L c : Nat → Nat}
/-- the code's lengths are at most 5 -/
theorem zp_bX (hL : ∀ t, t < 3 → L t ≤ 5) (hV : zc_V o L c) (j : Nat) : c j < 8 := by
  obtain ⟨h1, h2, h3, h4, h5, h6⟩ := hV
  by_cases a1 : j < 7
  · exact h1 j a1
  by_cases a2 : j < 10
  · have e : j = 7 + (j - 7) := by omega
    have := h2 (j - 7) (by omega)
    have := hL (j - 7) (by omega)
    rw [e]; omega
  by_cases a3 : j < 12
  · have e : j = 10 + (j - 10) := by omega
    have := h3 (j - 10) (by omega)
    rw [e]; omega
  by_cases a4 : j < 15
  · have e : j = 12 + (j - 12) := by omega
    have := h4 (j - 12) (by omega)
    rw [e]; omega
  by_cases a5 : j = 15
  · rw [a5]; omega
  · have := h6 j (by omega)
    omega
theorem zp_bY (hL : ∀ t, t < 3 → L t ≤ 5) (hV : zc_V o L c) (j : Nat) : c j < 2 ^ zp_w j := by
  have h0 := zp_bX hL hV j
  obtain ⟨h1, h2, h3, h4, h5, h6⟩ := hV
  unfold zp_w
  by_cases a2 : j < 10
  · rw [if_pos a2]; exact h0
  rw [if_neg a2]
  by_cases a3 : j < 12
  · have e : j = 10 + (j - 10) := by omega
    have := h3 (j - 10) (by omega)
    rw [if_pos (by omega), e]; omega
  by_cases a4 : j < 15
  · have e : j = 12 + (j - 12) := by omega
    have := h4 (j - 12) (by omega)
    rw [if_pos a4, e]; omega
  rw [if_neg a4]
  by_cases a5 : j = 15
  · rw [a5]; omega
  · have := h6 j (by omega)
    omega
theorem zp_X_lt (hL : ∀ t, t < 3 → L t ≤ 5) (hV : zc_V o L c) : zp_X c < 2 ^ 48 := zp_lt 16 0 (zp_bX hL hV)
theorem zp_Y_lt (hL : ∀ t, t < 3 → L t ≤ 5) (hV : zc_V o L c) : zp_Y c < 2 ^ 41 := zp_lt 16 0 (zp_bY hL hV)
theorem zp_X_inj {d : Nat → Nat} (hL : ∀ t, t < 3 → L t ≤ 5) (hc : zc_V o L c) (hd : zc_V o L d) (h : zp_X c = zp_X d) : c = d := by
  funext j
  by_cases hj : j < 16
  · have e1 := zp_get (w := fun _ => 3) (zp_bX hL hc) j 0 16 hj
    have e2 := zp_get (w := fun _ => 3) (zp_bX hL hd) j 0 16 hj
    unfold zp_X at h
    rw [h, e2] at e1
    rw [Nat.zero_add] at e1
    exact e1.symm
  · rw [hc.2.2.2.2.2 j (by omega), hd.2.2.2.2.2 j (by omega)]
theorem zp_Y_inj {d : Nat → Nat} (hL : ∀ t, t < 3 → L t ≤ 5) (hc : zc_V o L c) (hd : zc_V o L d) (h : zp_Y c = zp_Y d) : c = d := by
  funext j
  by_cases hj : j < 16
  · have e1 := zp_get (w := zp_w) (zp_bY hL hc) j 0 16 hj
    have e2 := zp_get (w := zp_w) (zp_bY hL hd) j 0 16 hj
    unfold zp_Y at h
    rw [h, e2] at e1
    rw [Nat.zero_add] at e1
    exact e1.symm
  · rw [hc.2.2.2.2.2 j (by omega), hd.2.2.2.2.2 j (by omega)]
end
theorem zp_s3 : ∀ k, zp_s (fun _ => 3) 0 k = 3 * k := by
  have : ∀ k i, zp_s (fun _ => 3) i k = 3 * k := by
    intro k
    induction k with
    | zero => intro i; rfl
    | succ k ih => intro i; show 3 + zp_s (fun _ => 3) (i + 1) k = _; rw [ih]; omega
  exact fun k => this k 0
theorem zp_sY : ∀ k, k < 16 → zp_s zp_w 0 k = (if k ≤ 10 then 3 * k else 10 + 2 * k) := by decide
