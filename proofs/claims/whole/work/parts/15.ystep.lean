/-! the reference: a step -/
section
variable {o g L c : Nat → Nat} {t : Nat} {f_steps f_count f_known f_different : Int32} {a_ops a_args a_length a_next a_table a_far a_found a_who a_what a_tried : Nat → Int32} {a_path a_list a_before : Nat → Int64}
theorem zy_nf {v n : Nat} (hc : ∀ j, c j < 2 ^ zp_w j) (hn : n ≤ 3) : ∀ j, zc_nf g c v n j < 2 ^ zp_w j := by
  intro j
  unfold zc_nf
  split
  · rename_i h
    have e : j = 10 + (j - 10) := by omega
    rw [e, zy_w2 (by omega)]; decide
  · exact hc j
theorem zy_notify {post : Int64 → Prop} {v : Nat} (hC : zx_C o g L a_ops a_args a_length) (hV : zc_V o L c) (hv : v < 2)
    (hp : post (lN (zp_Y (zc_nf g c v 3)))) : ∃ n, wY_locked_156 post (lN (zp_Y c)) (nI v) f_steps f_count f_known f_different a_ops a_args a_length a_path a_list a_next a_table a_far a_found a_who a_what a_before a_tried n (lN (zp_Y c)) 0 := by
  have hB := zp_bX (zx_L5 hC) hV
  have hc := zp_bY (zx_L5 hC) hV
  have key : ∀ d n, n + d = 3 → wY_locked_156 post (lN (zp_Y c)) (nI v) f_steps f_count f_known f_different a_ops a_args a_length a_path a_list a_next a_table a_far a_found a_who a_what a_before a_tried (d + 1) (lN (zp_Y (zc_nf g c v n))) (nI n) := by
    intro d
    induction d with
    | zero =>
      intro n hn
      have e : n = 3 := by omega
      subst e
      exact br_t (by decide) hp
    | succ d ih =>
      intro n hn
      have hb12 := hB (12 + n)
      refine br_f (nI_ge (b := 3) (by omega) (by decide)) (zy_waiting hc (by omega) (pk_eq (c (12 + n)) 1 (fun e1 => ?_) (fun e1 => ?_) rfl rfl (by omega) (by omega)))
      · have hp7 : c (7 + n) < L n := by
          rcases hV.2.2.2.1 n (by omega) with h | h
          · omega
          · exact h.2.1
        have hL := zx_L5 hC n (by omega)
        have hk : zc_pc c n < 15 := by unfold zc_pc; omega
        have hG := (hC.1 n (by omega)).2 _ hp7
        have hg8 : g (zc_pc c n) < 8 := hG.2.1
        refine zy_place hc (by omega) (nm_r (zy_pc n _) (And.intro (pk_in _ 15 hk) ?_))
        refine pk_eq (g (zc_pc c n)) v (fun e2 => ?_) (fun e2 => nm_r (nI_1 n) ?_) (zx_ar hC rfl hk) rfl (by omega) (by omega)
        · refine zy_put2 (zy_nf hc (by omega)) (2 + n) (by omega) (zy_i34 n) (x := 2) (by rfl) (by omega) (nm_r (nI_1 n) ?_)
          have := ih (n + 1) (by omega)
          rw [zc_nf_y e1 e2] at this
          have e12 : 10 + (2 + n) = 12 + n := by omega
          have e24 : 2 % 4 = 2 := rfl
          rw [e12, e24]
          exact this
        · have := ih (n + 1) (by omega)
          rw [zc_nf_n (fun h => e2 h.2)] at this
          exact this
      · have := ih (n + 1) (by omega)
        rw [zc_nf_n (fun h => e1 h.1)] at this
        exact nm_r (nI_1 n) this
  have := key 3 0 rfl
  rw [zc_nf_0] at this
  exact ⟨4, this⟩
theorem zy_l1 (t : Nat) (ht : t < 3) : (nI t + 1).toInt64 = lN (t + 1) := by rw [nI_1]; exact nI_l (by omega)
theorem zy_locked {post : Int64 → Prop} {op v : Nat} (hC : zx_C o g L a_ops a_args a_length) (hV : zc_V o L c) (ht : t < 3) (hv : v < 2)
    (h8a : op = 8 → c (10 + v) = t + 1 → post (lN (zp_Y (zc_up c (10 + v) 0))))
    (h8b : op = 8 → c (10 + v) ≠ t + 1 → post (lN (zp_Y c)))
    (h10a : op = 10 → c (12 + t) = 2 → post (lN (zp_Y (zc_up (zc_up c (12 + t) 0) (10 + v) (t + 1)))))
    (h10b : op = 10 → c (12 + t) ≠ 2 → c (10 + v) ≠ t + 1 → post (lN (zp_Y c)))
    (h10c : op = 10 → c (12 + t) ≠ 2 → c (10 + v) = t + 1 → post (lN (zp_Y (zc_up (zc_up c (10 + v) 0) (12 + t) 1))))
    (h11 : op = 11 → post (lN (zp_Y (zc_nf g c v 3)))) (ho : op = 8 ∨ op = 10 ∨ op = 11) :
    wpY_locked post (f_steps, f_count, f_known, f_different, a_ops, a_args, a_length, a_path, a_list, a_next, a_table, a_far, a_found, a_who, a_what, a_before, a_tried) (lN (zp_Y c)) (nI t) (nI op) (nI v) := by
  have hB := zp_bX (zx_L5 hC) hV
  have hc := zp_bY (zx_L5 hC) hV
  have hb10 := hB (10 + v)
  have hb12 := hB (12 + t)
  unfold wpY_locked
  rcases ho with e | e | e <;> subst e
  · refine zy_owner hc hv (pk_eq (c (10 + v)) (t + 1) (fun w => ?_) (fun w => ?_) rfl (nI_1 t) (by omega) (by omega))
    · exact br_t rfl (br_f (by decide) (zy_put2 hc v (by omega) (zy_i30 v) (x := 0) (by rfl) (by omega) (by rw [Nat.zero_mod]; exact h8a rfl w)))
    · exact br_t rfl (br_t rfl (h8b rfl w))
  · have h2 : c (12 + t) = 2 → wpY_put (fun r_22 => (wpY_put (fun r_23 => (post r_23)) r_22 (30 + (2 * nI v)) 3 ((nI t + 1).toInt64))) (lN (zp_Y c)) (34 + (2 * nI t)) 3 0 := by
      intro w2
      refine zy_put2 hc (2 + t) (by omega) (zy_i34 t) (x := 0) (by rfl) (by omega) ?_
      rw [Nat.zero_mod]
      refine zy_put2 (zy_up2 hc (by omega) (by omega)) v (by omega) (zy_i30 v) (x := t + 1) (zy_l1 t ht) (by omega) ?_
      rw [Nat.mod_eq_of_lt (show t + 1 < 4 by omega)]
      have e12 : 10 + (2 + t) = 12 + t := by omega
      rw [e12]
      exact h10a rfl w2
    refine zy_owner hc hv (pk_eq (c (10 + v)) (t + 1) (fun w => ?_) (fun w => ?_) rfl (nI_1 t) (by omega) (by omega))
    · refine br_f (by decide) (br_t rfl (zy_waiting hc ht (pk_eq (c (12 + t)) 2 h2 (fun w2 => ?_) rfl rfl (by omega) (by omega))))
      refine br_t rfl (br_f (by decide) (zy_put2 hc v (by omega) (zy_i30 v) (x := 0) (by rfl) (by omega) ?_))
      rw [Nat.zero_mod]
      refine zy_put2 (zy_up2 hc (by omega) (by omega)) (2 + t) (by omega) (zy_i34 t) (x := 1) (by rfl) (by omega) ?_
      have e12 : 10 + (2 + t) = 12 + t := by omega
      have e14 : 1 % 4 = 1 := rfl
      rw [e12, e14]
      exact h10c rfl w2 w
    · refine br_f (by decide) (br_t rfl (zy_waiting hc ht (pk_eq (c (12 + t)) 2 h2 (fun w2 => ?_) rfl rfl (by omega) (by omega))))
      exact br_t rfl (br_t rfl (h10b rfl w2 w))
  · have h3 := zy_notify (post := post) (f_steps := f_steps) (f_count := f_count) (f_known := f_known) (f_different := f_different) (a_ops := a_ops) (a_args := a_args) (a_length := a_length) (a_path := a_path) (a_list := a_list) (a_next := a_next) (a_table := a_table) (a_far := a_far) (a_found := a_found) (a_who := a_who) (a_what := a_what) (a_before := a_before) (a_tried := a_tried) hC hV hv (h11 rfl)
    refine zy_owner hc hv (pk_eq (c (10 + v)) (t + 1) (fun w => ?_) (fun w => ?_) rfl (nI_1 t) (by omega) (by omega))
    · exact br_f (by decide) (br_f (by decide) (br_f (by decide) h3))
    · exact br_f (by decide) (br_f (by decide) (br_f (by decide) h3))
/-- a step of a thread that is ready -/
theorem zy_after {post : Int64 → Prop} (hC : zx_C o g L a_ops a_args a_length) (hV : zc_V o L c) (ht : t < 3) (hR : zc_R o g L c t)
    (hp : post (lN (zp_Y (zc_step o g L c t)))) : wpY_after post (f_steps, f_count, f_known, f_different, a_ops, a_args, a_length, a_path, a_list, a_next, a_table, a_far, a_found, a_who, a_what, a_before, a_tried) (lN (zp_Y c)) (nI t) := by
  have hB := zp_bX (zx_L5 hC) hV
  have hc := zp_bY (zx_L5 hC) hV
  have hL := (hC.1 t ht).1
  have h7 := hR.1
  have hG := zc_R_G hC.1 ht hR
  have hk : zc_pc c t < 15 := by unfold zc_pc; omega
  have epc : 5 * nI t + nI (c (7 + t)) = nI (zc_pc c t) := zy_pc t _
  have hop : a_ops (5 * nI t + nI (c (7 + t))).toNatClampNeg = nI (o (zc_pc c t)) := zx_op hC epc hk
  have har : a_args (5 * nI t + nI (c (7 + t))).toNatClampNeg = nI (g (zc_pc c t)) := zx_ar hC epc hk
  have ik : vp_in (5 * nI t + nI (c (7 + t))) 15 := pk_in _ 15 hk epc
  have hb4 := hB (4 + t)
  have hb12 := hB (12 + t)
  have hw := hV.2.2.2.1 t ht
  have hr1 := hR.2.1
  obtain ⟨g1, g2, g3, g4, g5⟩ := hG
  have go1 : ∀ (d : Nat → Nat), (∀ j, d j < 2 ^ zp_w j) → zc_up d (7 + t) (zc_pl L t (c (7 + t) + 1)) = zc_step o g L c t →
      wY_after_359 post (nI t) (nI (c (7 + t))) 1 (lN (zp_Y d)) f_steps f_count f_known f_different a_ops a_args a_length a_path a_list a_next a_table a_far a_found a_who a_what a_before a_tried := by
    intro d hd he
    exact zy_fin hC ht hd (nI_1 _) (by omega) (by rw [he]; exact hp)
  unfold wpY_after
  refine zy_place hc ht (And.intro ik (nm_r hop (And.intro ik (nm_r har (zy_acc hc ht ?_)))))
  have hlk : (o (zc_pc c t) = 8 ∨ o (zc_pc c t) = 10 ∨ o (zc_pc c t) = 11) →
      wY_after_330 post (lN (zp_Y c)) (nI t) (nI (c (7 + t))) (nI (o (zc_pc c t))) (nI (g (zc_pc c t))) f_steps f_count f_known f_different a_ops a_args a_length a_path a_list a_next a_table a_far a_found a_who a_what a_before a_tried := by
    intro hl
    have hg2 := g4 (by omega)
    unfold wY_after_330
    have w1 : ∀ (d : Nat → Nat), (∀ j, d j < 2 ^ zp_w j) → d (12 + t) ≠ 1 → zc_up d (7 + t) (zc_pl L t (c (7 + t) + 1)) = zc_step o g L c t →
        wpY_waiting (fun r_28 => (((r_28 = 1 → (wY_after_357 post (nI t) (nI (c (7 + t))) (lN (zp_Y d)) 0 f_steps f_count f_known f_different a_ops a_args a_length a_path a_list a_next a_table a_far a_found a_who a_what a_before a_tried)) ∧ (¬ r_28 = 1 → (wY_after_357 post (nI t) (nI (c (7 + t))) (lN (zp_Y d)) 1 f_steps f_count f_known f_different a_ops a_args a_length a_path a_list a_next a_table a_far a_found a_who a_what a_before a_tried))))) (lN (zp_Y d)) (nI t) := by
      intro d hd hn he
      have hd12 : d (12 + t) < 4 := by
        have := hd (12 + t)
        rw [zy_12, zy_w2 (by omega)] at this
        rw [zy_12]; exact this
      exact zy_waiting hd ht (pk_eq (d (12 + t)) 1 (fun e => absurd e hn) (fun _ => go1 d hd he) rfl rfl (by omega) (by omega))
    refine zy_locked hC hV ht hg2 (fun e w => ?_) (fun e w => ?_) (fun e w => ?_) (fun e w w2 => ?_) (fun e w w2 => ?_) (fun e => ?_) hl
    · refine w1 _ (zy_up2 hc (by omega) (by omega)) ?_ (zc_e8a ht e hg2 w)
      rw [zc_up_n (by omega)]; exact hr1
    · exact w1 _ hc hr1 (zc_e8b ht e w)
    · have hd : ∀ j, zc_up (zc_up c (12 + t) 0) (10 + g (zc_pc c t)) (t + 1) j < 2 ^ zp_w j := by
        refine zy_up2 ?_ (by omega) (by omega)
        rw [zy_12]
        exact zy_up2 hc (by omega) (by omega)
      refine w1 _ hd ?_ (zc_e10a ht e hg2 w)
      rw [zc_up_n (by omega), zc_up_s]; omega
    · exact w1 _ hc hr1 (zc_e10b ht e w w2)
    · have hd : ∀ j, zc_up (zc_up c (10 + g (zc_pc c t)) 0) (12 + t) 1 j < 2 ^ zp_w j := by
        rw [zy_12]
        exact zy_up2 (zy_up2 hc (by omega) (by omega)) (by omega) (by omega)
      refine zy_waiting hd ht ?_
      rw [zc_up_s]
      refine br_t rfl (zy_fin hC ht hd (n := c (7 + t)) ?_ (by omega) ?_)
      · exact nI_add _ 0
      · have e2 : zc_pl L t (c (7 + t)) = c (7 + t) := by unfold zc_pl; rw [if_pos h7]
        rw [e2, zc_e10c ht e hg2 w w2]
        exact hp
    · refine w1 _ (zy_nf hc (by omega)) ?_ (zc_e11 ht e)
      unfold zc_nf
      rw [if_neg (fun h => hr1 h.2.2.1)]
      exact hr1
  have f0 : ¬ nI (o (zc_pc c t)) < 0 := nI_pos (by omega)
  refine pk_le 4 (o (zc_pc c t)) (fun h4 => br_f f0 ?_) (fun h4 => zy_variable hc (g3 (by omega)) (br_f f0 ?_)) rfl rfl (by omega) (by omega)
  · refine pk_lt 9 (o (zc_pc c t)) (fun h9 => hlk (by omega)) (fun h9 => ?_) rfl rfl (by omega) (by omega)
    refine pk_eq _ 0 (fun e => by omega) (fun _ => pk_eq _ 1 (fun e => by omega) (fun _ => pk_eq _ 2 (fun e => by omega) (fun _ => pk_eq _ 3 (fun e => by omega) (fun _ => ?_) rfl rfl (by omega) (by omega)) rfl rfl (by omega) (by omega)) rfl rfl (by omega) (by omega)) rfl rfl (by omega) (by omega)
    refine pk_eq _ 4 (fun e => ?_) (fun n4 => ?_) rfl rfl (by omega) (by omega)
    · refine zy_put3 hc (4 + t) (by omega) (zy_i12 t) (x := g (zc_pc c t)) (nI_l (by omega)) (by omega) ?_
      rw [Nat.mod_eq_of_lt g2]
      exact go1 _ (zy_up3 hc (by omega) g2) (zc_e4 ht e)
    refine pk_eq _ 5 (fun e => ?_) (fun n5 => ?_) rfl rfl (by omega) (by omega)
    · refine zy_put3 hc (4 + t) (by omega) (zy_i12 t) (x := c (4 + t) + g (zc_pc c t)) (by rw [nI_add]; exact nI_l (by omega)) (by omega) ?_
      exact go1 _ (zy_up3 hc (by omega) (by omega)) (zc_e5 ht e)
    refine pk_eq _ 6 (fun e => ?_) (fun n6 => ?_) rfl rfl (by omega) (by omega)
    · have h8 := g5 e
      refine pk_eq (c (4 + t)) 0 (fun w => ?_) (fun w => ?_) rfl rfl (by omega) (by omega)
      · refine zy_fin hC ht hc (n := c (7 + t) + 1 + g (zc_pc c t)) ?_ (by omega) (by rw [zc_e6a ht e w]; exact hp)
        have e1 : 1 + nI (g (zc_pc c t)) = nI (1 + g (zc_pc c t)) := nI_add 1 _
        rw [e1, nI_add, Nat.add_assoc]
      · exact go1 _ hc (zc_e6b ht e w)
    refine pk_eq _ 7 (fun e => ?_) (fun n7 => ?_) rfl rfl (by omega) (by omega)
    · have hg2 := g4 (by omega)
      refine zy_put2 hc (g (zc_pc c t)) (by omega) (zy_i30 _) (x := t + 1) (zy_l1 t ht) (by omega) ?_
      rw [Nat.mod_eq_of_lt (show t + 1 < 4 by omega)]
      exact go1 _ (zy_up2 hc (by omega) (by omega)) (zc_e7 ht e hg2)
    refine pk_eq _ 8 (fun e => hlk (by omega)) (fun n8 => ?_) rfl rfl (by omega) (by omega)
    refine pk_eq _ 9 (fun e => ?_) (fun n9 => by omega) rfl rfl (by omega) (by omega)
    refine pk_eq (c (4 + t)) (g (zc_pc c t)) (fun w => go1 _ hc (zc_e9b ht e w)) (fun w => nm_r (zy_or40 hc) ?_) rfl rfl (by omega) (by omega)
    exact go1 _ (zy_up hc (by decide)) (zc_e9a ht e w)
  · have hb := hB (g (zc_pc c t))
    have hg4 := g3 h4
    refine pk_lt 9 (o (zc_pc c t)) (fun h9 => by omega) (fun h9 => ?_) rfl rfl (by omega) (by omega)
    refine pk_eq _ 0 (fun e => ?_) (fun n0 => ?_) rfl rfl (by omega) (by omega)
    · refine zy_put3 hc (4 + t) (by omega) (zy_i12 t) (x := c (g (zc_pc c t))) (nI_l (by omega)) (by omega) ?_
      rw [Nat.mod_eq_of_lt hb]
      exact go1 _ (zy_up3 hc (by omega) hb) (zc_e0 ht e hg4)
    have i3 : 3 * nI (g (zc_pc c t)) = nI (3 * g (zc_pc c t)) := pk_mul 3 _
    refine pk_eq _ 1 (fun e => ?_) (fun n1 => ?_) rfl rfl (by omega) (by omega)
    · refine zy_put3 hc (g (zc_pc c t)) (by omega) i3 (x := c (4 + t)) (nI_l (by omega)) (by omega) ?_
      rw [Nat.mod_eq_of_lt hb4]
      exact go1 _ (zy_up3 hc (by omega) hb4) (zc_e1 ht e hg4)
    refine pk_eq _ 2 (fun e => ?_) (fun n2 => ?_) rfl rfl (by omega) (by omega)
    · refine zy_put3 hc (4 + t) (by omega) (zy_i12 t) (x := c (g (zc_pc c t))) (nI_l (by omega)) (by omega) ?_
      rw [Nat.mod_eq_of_lt hb]
      refine zy_put3 (zy_up3 hc (by omega) hb) (g (zc_pc c t)) (by omega) i3 (x := c (4 + t)) (nI_l (by omega)) (by omega) ?_
      rw [Nat.mod_eq_of_lt hb4]
      exact go1 _ (zy_up3 (zy_up3 hc (by omega) hb) (by omega) hb4) (zc_e2 ht e hg4)
    refine pk_eq _ 3 (fun e => ?_) (fun n3 => by omega) rfl rfl (by omega) (by omega)
    refine zy_put3 hc (g (zc_pc c t)) (by omega) i3 (x := c (g (zc_pc c t)) + 1) (by rw [nI_1]; exact nI_l (by omega)) (by omega) ?_
    exact go1 _ (zy_up3 hc (by omega) (by omega)) (zc_e3 ht e hg4)
end
