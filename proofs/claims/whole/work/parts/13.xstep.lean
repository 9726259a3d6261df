/-! the component: a step -/
section
variable {o g L c : Nat → Nat} {t : Nat} {f_steps f_foundCount : Int32} {a_ops a_args a_codeLength a_cell a_cameFrom a_cameBy a_distance a_slots a_isEnding a_walkLeft a_walkAsleep : Nat → Int32} {a_trail a_found a_walkState : Nat → Int64}
theorem zx_R_G' {a_ops a_args a_len : Nat → Int32} (hC : zx_C o g L a_ops a_args a_len) (ht : t < 3) (hR : zc_R o g L c t) : zc_G (o (zc_pc c t)) (g (zc_pc c t)) := zc_R_G hC.1 ht hR
theorem zx_isOfVariable {post : Int32 → Prop} {op : Nat} (ho : op ≤ 11) (h1 : op < 4 → post 1) (h0 : ¬ op < 4 → post 0) : wpX_isOfVariable post (nI op) :=
  br_f (nI_pos (by omega)) (pk_lt 3 op (fun h => h0 (by omega)) (fun h => h1 (by omega)))
theorem zx_isOfLock {post : Int32 → Prop} {op : Nat} (ho : op ≤ 11) (h1 : (op = 7 ∨ op = 8 ∨ op = 10 ∨ op = 11) → post 1) (h0 : ¬ (op = 7 ∨ op = 8 ∨ op = 10 ∨ op = 11) → post 0) : wpX_isOfLock post (nI op) :=
  pk_eq op 7 (fun h => h1 (by omega)) (fun h7 => pk_eq op 8 (fun h => h1 (by omega)) (fun h8 => pk_eq op 10 (fun h => h1 (by omega)) (fun h10 => pk_eq op 11 (fun h => h1 (by omega)) (fun h11 => h0 (by omega)))))
def zx_uv (c : Nat → Nat) (t op v : Nat) : Nat → Nat :=
  if op = 0 then zc_up c (4 + t) (c v) else if op = 1 then zc_up c v (c (4 + t))
  else if op = 2 then zc_up (zc_up c (4 + t) (c v)) v (c (4 + t)) else zc_up c v ((c v + 1) % 8)
theorem zx_uv51 {post : SX → Prop} {op v : Nat} (ho : op < 3) (hp : post (f_steps, f_foundCount, a_ops, a_args, a_codeLength, a_trail, a_cell, a_found, a_cameFrom, a_cameBy, a_distance, a_slots, a_isEnding, a_walkState, a_walkLeft, a_walkAsleep)) : wX_useVariable_51 post (nI op) (nI v) f_steps f_foundCount a_ops a_args a_codeLength a_trail a_cell a_found a_cameFrom a_cameBy a_distance a_slots a_isEnding a_walkState a_walkLeft a_walkAsleep :=
  pk_eq op 3 (fun h => by omega) (fun _ => hp)
theorem zx_useVariable {post : SX → Prop} {op v : Nat} (ht : t < 3) (hE : zx_E c a_cell) (hB : ∀ j, c j < 8) (ho : op < 4) (hv : v < 4)
    (hp : ∀ a', zx_E (zx_uv c t op v) a' → post (f_steps, f_foundCount, a_ops, a_args, a_codeLength, a_trail, a', a_found, a_cameFrom, a_cameBy, a_distance, a_slots, a_isEnding, a_walkState, a_walkLeft, a_walkAsleep)) : wpX_useVariable post (f_steps, f_foundCount, a_ops, a_args, a_codeLength, a_trail, a_cell, a_found, a_cameFrom, a_cameBy, a_distance, a_slots, a_isEnding, a_walkState, a_walkLeft, a_walkAsleep) (nI t) (nI op) (nI v) := by
  have i4 : vp_in (4 + nI t) 16 := pk_in (4 + t) 16 (by omega) (zx_a4 t)
  have iv : vp_in (nI v) 16 := pk_in v 16 (by omega)
  have c4 := zx_at hE (zx_a4 t) (show 4 + t < 16 by omega)
  have cv := zx_at hE (rfl : nI v = nI v) (show v < 16 by omega)
  have hbv := hB v
  have : op = 0 ∨ op = 1 ∨ op = 2 ∨ op = 3 := by omega
  rcases this with e | e | e | e <;> subst e
  · refine And.intro i4 (nm_r c4 (br_t rfl (And.intro iv (And.intro i4 (nm_e ?_)))))
    refine br_f (by decide) (br_f (by decide) (zx_uv51 (op := 0) (by omega) (hp _ ?_)))
    exact zx_Eu hE (zx_a4 t) (by omega) cv
  · refine And.intro i4 (nm_r c4 (br_f (by decide) (br_f (by decide) (br_t rfl (And.intro iv (nm_e ?_))))))
    refine zx_uv51 (op := 1) (by omega) (hp _ ?_)
    exact zx_Eu hE rfl (by omega) rfl
  · refine And.intro i4 (nm_r c4 (br_f (by decide) (br_t rfl (And.intro iv (And.intro i4 (nm_e ?_))))))
    refine br_f (by decide) (br_t rfl (And.intro iv (nm_e ?_)))
    refine zx_uv51 (op := 2) (by omega) (hp _ ?_)
    exact zx_Eu (zx_Eu hE (zx_a4 t) (by omega) cv) rfl (by omega) rfl
  · refine And.intro i4 (nm_r c4 (br_f (by decide) (br_f (by decide) (br_f (by decide) (br_f (by decide) (br_t rfl ?_))))))
    refine And.intro iv (And.intro (by decide) (And.intro iv (nm_e (hp _ ?_))))
    refine zx_Eu hE rfl (by omega) ?_
    rw [cv]
    have e1 : nI (c v) + 1 = nI (c v + 1) := nI_1 _
    rw [e1]
    exact pk_rem (d := 8) (by omega) (by omega) (by omega)
theorem zx_useNumber {post : SX → Prop} {op v : Nat} (ht : t < 3) (hE : zx_E c a_cell) (hB : ∀ j, c j < 8) (hv : v < 8)
    (h4 : op = 4 → ∀ a', zx_E (zc_up c (4 + t) v) a' → post (f_steps, f_foundCount, a_ops, a_args, a_codeLength, a_trail, a', a_found, a_cameFrom, a_cameBy, a_distance, a_slots, a_isEnding, a_walkState, a_walkLeft, a_walkAsleep))
    (h5 : op = 5 → ∀ a', zx_E (zc_up c (4 + t) ((c (4 + t) + v) % 8)) a' → post (f_steps, f_foundCount, a_ops, a_args, a_codeLength, a_trail, a', a_found, a_cameFrom, a_cameBy, a_distance, a_slots, a_isEnding, a_walkState, a_walkLeft, a_walkAsleep))
    (h9 : op = 9 → c (4 + t) ≠ v → ∀ a', zx_E (zc_up c 15 1) a' → post (f_steps, f_foundCount, a_ops, a_args, a_codeLength, a_trail, a', a_found, a_cameFrom, a_cameBy, a_distance, a_slots, a_isEnding, a_walkState, a_walkLeft, a_walkAsleep))
    (h9' : op = 9 → c (4 + t) = v → post (f_steps, f_foundCount, a_ops, a_args, a_codeLength, a_trail, a_cell, a_found, a_cameFrom, a_cameBy, a_distance, a_slots, a_isEnding, a_walkState, a_walkLeft, a_walkAsleep)) (ho : op = 4 ∨ op = 5 ∨ op = 9) : wpX_useNumber post (f_steps, f_foundCount, a_ops, a_args, a_codeLength, a_trail, a_cell, a_found, a_cameFrom, a_cameBy, a_distance, a_slots, a_isEnding, a_walkState, a_walkLeft, a_walkAsleep) (nI t) (nI op) (nI v) := by
  have i4 : vp_in (4 + nI t) 16 := pk_in (4 + t) 16 (by omega) (zx_a4 t)
  have c4 := zx_at hE (zx_a4 t) (show 4 + t < 16 by omega)
  have hb4 := hB (4 + t)
  rcases ho with e | e | e <;> subst e
  · exact br_t rfl (And.intro i4 (nm_e (h4 rfl _ (zx_Eu hE (zx_a4 t) (by omega) rfl))))
  · refine br_f (by decide) (br_t rfl (And.intro i4 (And.intro (by decide) (And.intro i4 (nm_e (h5 rfl _ (zx_Eu hE (zx_a4 t) (by omega) ?_)))))))
    rw [c4, nI_add]
    exact pk_rem (d := 8) (by omega) (by omega) (by omega)
  · refine br_f (by decide) (br_f (by decide) (br_t rfl (And.intro i4 ?_)))
    refine pk_eq (c (4 + t)) v (fun e => h9' rfl e) (fun e => nm_e (h9 rfl e _ ?_)) c4 rfl (by omega) (by omega)
    exact zx_Eu (x := 15) (k := 15) hE (by rfl) (by omega) (by rfl)
theorem zx_useWait {post : Int32 → SX → Prop} {v : Nat} (ht : t < 3) (hE : zx_E c a_cell) (hB : ∀ j, c j < 8) (hv : v < 2)
    (h1 : c (12 + t) = 2 → ∀ a', zx_E (zc_up (zc_up c (12 + t) 0) (10 + v) (t + 1)) a' → post 1 (f_steps, f_foundCount, a_ops, a_args, a_codeLength, a_trail, a', a_found, a_cameFrom, a_cameBy, a_distance, a_slots, a_isEnding, a_walkState, a_walkLeft, a_walkAsleep))
    (h2 : c (12 + t) ≠ 2 → c (10 + v) ≠ t + 1 → post 1 (f_steps, f_foundCount, a_ops, a_args, a_codeLength, a_trail, a_cell, a_found, a_cameFrom, a_cameBy, a_distance, a_slots, a_isEnding, a_walkState, a_walkLeft, a_walkAsleep))
    (h3 : c (12 + t) ≠ 2 → c (10 + v) = t + 1 → ∀ a', zx_E (zc_up (zc_up c (10 + v) 0) (12 + t) 1) a' → post 0 (f_steps, f_foundCount, a_ops, a_args, a_codeLength, a_trail, a', a_found, a_cameFrom, a_cameBy, a_distance, a_slots, a_isEnding, a_walkState, a_walkLeft, a_walkAsleep)) :
    wpX_useWait post (f_steps, f_foundCount, a_ops, a_args, a_codeLength, a_trail, a_cell, a_found, a_cameFrom, a_cameBy, a_distance, a_slots, a_isEnding, a_walkState, a_walkLeft, a_walkAsleep) (nI t) (nI v) := by
  have i12 : vp_in (12 + nI t) 16 := pk_in (12 + t) 16 (by omega) (zx_a12 t)
  have i10 : vp_in (10 + nI v) 16 := pk_in (10 + v) 16 (by omega) (zx_a10 v)
  have c12 := zx_at hE (zx_a12 t) (show 12 + t < 16 by omega)
  have c10 := zx_at hE (zx_a10 v) (show 10 + v < 16 by omega)
  have hb12 := hB (12 + t)
  have hb10 := hB (10 + v)
  refine And.intro i12 (pk_eq (c (12 + t)) 2 (fun e => And.intro i12 (nm_e (And.intro i10 (nm_e (h1 e _ ?_))))) (fun e => And.intro i10 ?_) c12 rfl (by omega) (by omega))
  · exact zx_Eu (zx_Eu hE (zx_a12 t) (by omega) (by rfl)) (zx_a10 v) (by omega) (nI_1 t)
  · refine pk_eq (c (10 + v)) (t + 1) (fun e2 => And.intro i10 (nm_e (And.intro i12 (nm_e (h3 e e2 _ ?_))))) (fun e2 => h2 e e2) c10 (nI_1 t) (by omega) (by omega)
    exact zx_Eu (zx_Eu hE (zx_a10 v) (by omega) (by rfl)) (zx_a12 t) (by omega) (by rfl)
theorem zx_notify {post : SX → Prop} {v : Nat} (hC : zx_C o g L a_ops a_args a_codeLength) (hV : zc_V o L c) (hE : zx_E c a_cell) (hv : v < 2)
    (hp : ∀ a', zx_E (zc_nf g c v 3) a' → post (f_steps, f_foundCount, a_ops, a_args, a_codeLength, a_trail, a', a_found, a_cameFrom, a_cameBy, a_distance, a_slots, a_isEnding, a_walkState, a_walkLeft, a_walkAsleep)) : wpX_notifyWaiters post (f_steps, f_foundCount, a_ops, a_args, a_codeLength, a_trail, a_cell, a_found, a_cameFrom, a_cameBy, a_distance, a_slots, a_isEnding, a_walkState, a_walkLeft, a_walkAsleep) (nI v) := by
  have hB := zp_bX (zx_L5 hC) hV
  have key : ∀ d n (a' : Nat → Int32), n + d = 3 → zx_E (zc_nf g c v n) a' →
      wX_notifyWaiters_2 post (nI v) f_steps f_foundCount (d + 1) (nI n) a_ops a_args a_codeLength a_trail a' a_found a_cameFrom a_cameBy a_distance a_slots a_isEnding a_walkState a_walkLeft a_walkAsleep := by
    intro d
    induction d with
    | zero =>
      intro n a' hn ha
      have e : n = 3 := by omega
      subst e
      exact br_t (by decide) (hp a' ha)
    | succ d ih =>
      intro n a' hn ha
      have hb12 := hB (12 + n)
      have c12 : a' (12 + nI n).toNatClampNeg = nI (c (12 + n)) := by
        rw [zx_at ha (zx_a12 n) (by omega), zc_nf_at]
      have c7 : a' (7 + nI n).toNatClampNeg = nI (c (7 + n)) := by
        rw [zx_at ha (zx_a7 n) (by omega), zc_nf_lo (by omega)]
      have i12 : vp_in (12 + nI n) 16 := pk_in (12 + n) 16 (by omega) (zx_a12 n)
      refine br_f (nI_ge (b := 3) (by omega) (by decide)) (And.intro i12 (pk_eq (c (12 + n)) 1 (fun e1 => ?_) (fun e1 => ?_) c12 rfl (by omega) (by omega)))
      · have hp7 : c (7 + n) < L n := by
          rcases hV.2.2.2.1 n (by omega) with h | h
          · omega
          · exact h.2.1
        have hL := zx_L5 hC n (by omega)
        have epc : nI n * 5 + a' (7 + nI n).toNatClampNeg = nI (zc_pc c n) := by rw [c7]; exact zx_pc n _
        have hk : zc_pc c n < 15 := by unfold zc_pc; omega
        have hG := (hC.1 n (by omega)).2 _ hp7
        have hg8 : g (zc_pc c n) < 8 := hG.2.1
        refine And.intro (pk_in (7 + n) 16 (by omega) (zx_a7 n)) (And.intro (pk_in _ 15 hk epc) ?_)
        refine pk_eq (g (zc_pc c n)) v (fun e2 => And.intro i12 (nm_e (nm_r (nI_1 n) (ih (n + 1) _ (by omega) ?_)))) (fun e2 => nm_r (nI_1 n) (ih (n + 1) _ (by omega) ?_)) (zx_ar hC epc hk) rfl (by omega) (by omega)
        · rw [zc_nf_y e1 e2]
          exact zx_Eu ha (zx_a12 n) (by omega) (by rfl)
        · rw [zc_nf_n (fun h => e2 h.2)]
          exact ha
      · refine nm_r (nI_1 n) (ih (n + 1) _ (by omega) ?_)
        rw [zc_nf_n (fun h => e1 h.1)]
        exact ha
  refine ⟨4, key 3 0 a_cell rfl ?_⟩
  rw [zc_nf_0]
  exact hE
theorem zx_useLock {post : SX → Prop} {op v : Nat} (hC : zx_C o g L a_ops a_args a_codeLength) (hV : zc_V o L c) (ht : t < 3) (hE : zx_E c a_cell) (hv : v < 2)
    (h7 : op = 7 → ∀ a', zx_E (zc_up c (10 + v) (t + 1)) a' → post (f_steps, f_foundCount, a_ops, a_args, a_codeLength, a_trail, a', a_found, a_cameFrom, a_cameBy, a_distance, a_slots, a_isEnding, a_walkState, a_walkLeft, a_walkAsleep))
    (h8 : op = 8 → c (10 + v) = t + 1 → ∀ a', zx_E (zc_up c (10 + v) 0) a' → post (f_steps, f_foundCount, a_ops, a_args, a_codeLength, a_trail, a', a_found, a_cameFrom, a_cameBy, a_distance, a_slots, a_isEnding, a_walkState, a_walkLeft, a_walkAsleep))
    (h8' : op = 8 → c (10 + v) ≠ t + 1 → post (f_steps, f_foundCount, a_ops, a_args, a_codeLength, a_trail, a_cell, a_found, a_cameFrom, a_cameBy, a_distance, a_slots, a_isEnding, a_walkState, a_walkLeft, a_walkAsleep))
    (h11 : op = 11 → ∀ a', zx_E (zc_nf g c v 3) a' → post (f_steps, f_foundCount, a_ops, a_args, a_codeLength, a_trail, a', a_found, a_cameFrom, a_cameBy, a_distance, a_slots, a_isEnding, a_walkState, a_walkLeft, a_walkAsleep)) (ho : op = 7 ∨ op = 8 ∨ op = 11) : wpX_useLock post (f_steps, f_foundCount, a_ops, a_args, a_codeLength, a_trail, a_cell, a_found, a_cameFrom, a_cameBy, a_distance, a_slots, a_isEnding, a_walkState, a_walkLeft, a_walkAsleep) (nI t) (nI op) (nI v) := by
  have hB := zp_bX (zx_L5 hC) hV
  have i10 : vp_in (10 + nI v) 16 := pk_in (10 + v) 16 (by omega) (zx_a10 v)
  have c10 := zx_at hE (zx_a10 v) (show 10 + v < 16 by omega)
  have hb10 := hB (10 + v)
  rcases ho with e | e | e <;> subst e
  · exact br_t rfl (And.intro i10 (nm_e (h7 rfl _ (zx_Eu hE (zx_a10 v) (by omega) (nI_1 t)))))
  · refine br_f (by decide) (br_t rfl (And.intro i10 ?_))
    refine pk_eq (c (10 + v)) (t + 1) (fun e => And.intro i10 (nm_e (h8 rfl e _ (zx_Eu hE (zx_a10 v) (by omega) (by rfl))))) (fun e => ?_) c10 (nI_1 t) (by omega) (by omega)
    exact br_f (by decide) (h8' rfl e)
  · refine br_f (by decide) (br_f (by decide) (br_t rfl ?_))
    exact zx_notify hC hV hE hv fun a' ha => h11 rfl a' ha
/-- a step of a thread that is ready -/
theorem zx_advance {post : SX → Prop} (hC : zx_C o g L a_ops a_args a_codeLength) (hV : zc_V o L c) (ht : t < 3) (hE : zx_E c a_cell) (hR : zc_R o g L c t)
    (hp : ∀ a', zx_E (zc_step o g L c t) a' → post (f_steps, f_foundCount, a_ops, a_args, a_codeLength, a_trail, a', a_found, a_cameFrom, a_cameBy, a_distance, a_slots, a_isEnding, a_walkState, a_walkLeft, a_walkAsleep)) : wpX_advance post (f_steps, f_foundCount, a_ops, a_args, a_codeLength, a_trail, a_cell, a_found, a_cameFrom, a_cameBy, a_distance, a_slots, a_isEnding, a_walkState, a_walkLeft, a_walkAsleep) (nI t) := by
  have hB := zp_bX (zx_L5 hC) hV
  have hL := (hC.1 t ht).1
  have h7 := hR.1
  have hG := zx_R_G' hC ht hR
  have hk : zc_pc c t < 15 := by unfold zc_pc; omega
  have c7 := zx_at hE (zx_a7 t) (show 7 + t < 16 by omega)
  have epc : nI t * 5 + nI (c (7 + t)) = nI (zc_pc c t) := zx_pc t _
  have hop : a_ops (nI t * 5 + nI (c (7 + t))).toNatClampNeg = nI (o (zc_pc c t)) := zx_op hC epc hk
  have har : a_args (nI t * 5 + nI (c (7 + t))).toNatClampNeg = nI (g (zc_pc c t)) := zx_ar hC epc hk
  have ik : vp_in (nI t * 5 + nI (c (7 + t))) 15 := pk_in _ 15 hk epc
  have hb4 := hB (4 + t)
  obtain ⟨g1, g2, g3, g4, g5⟩ := hG
  have fin : ∀ (d : Nat → Nat) (a' : Nat → Int32) (n : Nat), zx_E d a' → n < 2 ^ 31 → zc_up d (7 + t) (zc_pl L t n) = zc_step o g L c t →
      wX_advance_144 post (nI t) (nI n) f_steps f_foundCount a_ops a_args a_codeLength a_trail a' a_found a_cameFrom a_cameBy a_distance a_slots a_isEnding a_walkState a_walkLeft a_walkAsleep := by
    intro d a' n hd hn he
    exact zx_place hC ht hd hn fun b hb => hp b (he ▸ hb)
  refine And.intro (pk_in (7 + t) 16 (by omega) (zx_a7 t)) (nm_r c7 (And.intro ik (nm_r hop (And.intro ik (nm_r har (nm_r (nI_1 _) ?_))))))
  refine zx_isOfVariable g1 (fun hv => br_f (by decide) ?_) (fun hv => br_t rfl ?_)
  · refine zx_useVariable ht hE hB hv (g3 hv) fun a' ha => fin _ a' _ ha (by omega) ?_
    unfold zx_uv
    have : o (zc_pc c t) = 0 ∨ o (zc_pc c t) = 1 ∨ o (zc_pc c t) = 2 ∨ o (zc_pc c t) = 3 := by omega
    rcases this with e | e | e | e
    · rw [if_pos e]; exact zc_e0 ht e (g3 hv)
    · rw [if_neg (by omega), if_pos e]; exact zc_e1 ht e (g3 hv)
    · rw [if_neg (by omega), if_neg (by omega), if_pos e]; exact zc_e2 ht e (g3 hv)
    · rw [if_neg (by omega), if_neg (by omega), if_neg (by omega)]; exact zc_e3 ht e (g3 hv)
  · refine pk_eq (o (zc_pc c t)) 10 (fun e10 => ?_) (fun e10 => ?_) rfl rfl (by omega) (by omega)
    · have hg2 := g4 (by omega)
      refine zx_useWait ht hE hB hg2 (fun w a' ha => br_f (by decide) ?_) (fun w w2 => br_f (by decide) ?_) (fun w w2 a' ha => br_t rfl ?_)
      · rw [nI_1]
        exact fin _ a' _ ha (by omega) (zc_e10a ht e10 hg2 w)
      · rw [nI_1]
        exact fin _ _ _ hE (by omega) (zc_e10b ht e10 w w2)
      · refine fin _ a' _ ha (by omega) ?_
        have e : zc_pl L t (c (7 + t)) = c (7 + t) := by unfold zc_pl; rw [if_pos h7]
        rw [e]
        exact zc_e10c ht e10 hg2 w w2
    · refine zx_isOfLock g1 (fun hl => br_f (by decide) ?_) (fun hl => br_t rfl ?_)
      · have hg2 := g4 hl
        refine zx_useLock hC hV ht hE hg2 (fun e a' ha => fin _ a' _ ha (by omega) (zc_e7 ht e hg2)) (fun e w a' ha => fin _ a' _ ha (by omega) (zc_e8a ht e hg2 w))
          (fun e w => fin _ _ _ hE (by omega) (zc_e8b ht e w)) (fun e a' ha => fin _ a' _ ha (by omega) (zc_e11 ht e)) (by omega)
      · refine pk_eq (o (zc_pc c t)) 6 (fun e6 => And.intro (pk_in (4 + t) 16 (by omega) (zx_a4 t)) ?_) (fun e6 => ?_) rfl rfl (by omega) (by omega)
        · have h8 := g5 e6
          refine pk_eq (c (4 + t)) 0 (fun w => ?_) (fun w => ?_) (zx_at hE (zx_a4 t) (by omega)) rfl (by omega) (by omega)
          · rw [nI_1, nI_add]
            exact fin _ _ _ hE (by omega) (zc_e6a ht e6 w)
          · rw [nI_1]
            exact fin _ _ _ hE (by omega) (zc_e6b ht e6 w)
        · refine zx_useNumber ht hE hB g2 (fun e a' ha => fin _ a' _ ha (by omega) (zc_e4 ht e)) (fun e a' ha => fin _ a' _ ha (by omega) (zc_e5 ht e))
            (fun e w a' ha => fin _ a' _ ha (by omega) (zc_e9a ht e w)) (fun e w => fin _ _ _ hE (by omega) (zc_e9b ht e w)) (by omega)
end
