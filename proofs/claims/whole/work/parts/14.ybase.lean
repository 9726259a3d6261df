/-! the reference: cells of a number, readiness, a step -/
theorem zy_w3 {k : Nat} (h : k < 10) : zp_w k = 3 := if_pos h
theorem zy_w2 {l : Nat} (h : l < 5) : zp_w (10 + l) = 2 := by unfold zp_w; rw [if_neg (by omega), if_pos (by omega)]
theorem zy_s3 {k : Nat} (h : k < 10) : zp_s zp_w 0 k = 3 * k := by rw [zp_sY k (by omega), if_pos (by omega)]
theorem zy_s2 {l : Nat} (h : l < 5) : zp_s zp_w 0 (10 + l) = 30 + 2 * l := by
  rw [zp_sY (10 + l) (by omega)]
  split <;> omega
theorem zy_up {c : Nat → Nat} {k v : Nat} (hc : ∀ j, c j < 2 ^ zp_w j) (hv : v < 2 ^ zp_w k) : ∀ j, zc_up c k v j < 2 ^ zp_w j := by
  intro j
  unfold zc_up
  split
  · rename_i h; rw [h]; exact hv
  · exact hc j
section
variable {c : Nat → Nat}
theorem zy_get {post : Int32 → Prop} (hc : ∀ j, c j < 2 ^ zp_w j) (k : Nat) (hk : k < 16) {sh mask : Int32} (hs : sh = nI (zp_s zp_w 0 k)) (hm : mask = nI (2 ^ zp_w k - 1))
    (hp : post (nI (c k))) : wpY_get post (lN (zp_Y c)) sh mask := by
  show post (((lN (zp_Y c) >>> (sh.toInt64 &&& 63)).toInt32) &&& mask)
  rw [hs, hm, zp_getY hc hk]
  exact hp
theorem zy_variable {post : Int32 → Prop} (hc : ∀ j, c j < 2 ^ zp_w j) {v : Nat} (hv : v < 4) (hp : post (nI (c v))) : wpY_variable post (lN (zp_Y c)) (nI v) :=
  zy_get hc v (by omega) (by rw [zy_s3 (by omega)]; exact pk_mul 3 v) (by rw [zy_w3 (by omega)]; rfl) hp
theorem zy_acc {post : Int32 → Prop} (hc : ∀ j, c j < 2 ^ zp_w j) {t : Nat} (ht : t < 3) (hp : post (nI (c (4 + t)))) : wpY_acc post (lN (zp_Y c)) (nI t) :=
  zy_get hc (4 + t) (by omega) (by
    rw [zy_s3 (by omega)]
    have e : 3 * nI t = nI (3 * t) := pk_mul 3 t
    rw [e]
    have e2 : 12 + nI (3 * t) = nI (12 + 3 * t) := nI_add 12 _
    rw [e2]; exact congrArg nI (by omega)) (by rw [zy_w3 (by omega)]; rfl) hp
theorem zy_i21 (t : Nat) : 21 + 3 * nI t = nI (3 * (7 + t)) := by
  have e : 3 * nI t = nI (3 * t) := pk_mul 3 t
  rw [e]
  have e2 : 21 + nI (3 * t) = nI (21 + 3 * t) := nI_add 21 _
  rw [e2]; exact congrArg nI (by omega)
theorem zy_i12 (t : Nat) : 12 + 3 * nI t = nI (3 * (4 + t)) := by
  have e : 3 * nI t = nI (3 * t) := pk_mul 3 t
  rw [e]
  have e2 : 12 + nI (3 * t) = nI (12 + 3 * t) := nI_add 12 _
  rw [e2]; exact congrArg nI (by omega)
theorem zy_i30 (l : Nat) : 30 + 2 * nI l = nI (30 + 2 * l) := by
  have e : 2 * nI l = nI (2 * l) := pk_mul 2 l
  rw [e]; exact nI_add 30 _
theorem zy_i34 (l : Nat) : 34 + 2 * nI l = nI (30 + 2 * (2 + l)) := by
  have e : 2 * nI l = nI (2 * l) := pk_mul 2 l
  rw [e]
  have e2 : 34 + nI (2 * l) = nI (34 + 2 * l) := nI_add 34 _
  rw [e2]; exact congrArg nI (by omega)
theorem zy_place {post : Int32 → Prop} (hc : ∀ j, c j < 2 ^ zp_w j) {t : Nat} (ht : t < 3) (hp : post (nI (c (7 + t)))) : wpY_place post (lN (zp_Y c)) (nI t) :=
  zy_get hc (7 + t) (by omega) (by rw [zy_s3 (by omega)]; exact zy_i21 t) (by rw [zy_w3 (by omega)]; rfl) hp
theorem zy_owner {post : Int32 → Prop} (hc : ∀ j, c j < 2 ^ zp_w j) {l : Nat} (hl : l < 2) (hp : post (nI (c (10 + l)))) : wpY_owner post (lN (zp_Y c)) (nI l) :=
  zy_get hc (10 + l) (by omega) (by rw [zy_s2 (by omega)]; exact zy_i30 l) (by rw [zy_w2 (by omega)]; rfl) hp
theorem zy_12 (t : Nat) : 12 + t = 10 + (2 + t) := by omega
theorem zy_waiting {post : Int32 → Prop} (hc : ∀ j, c j < 2 ^ zp_w j) {t : Nat} (ht : t < 3) (hp : post (nI (c (12 + t)))) : wpY_waiting post (lN (zp_Y c)) (nI t) :=
  zy_get hc (12 + t) (by omega) (by rw [zy_12, zy_s2 (by omega)]; exact zy_i34 t) (by rw [zy_12, zy_w2 (by omega)]; rfl) hp
theorem zy_bad {post : Int32 → Prop} (hc : ∀ j, c j < 2 ^ zp_w j) (hp : post (nI (c 15))) : wpY_bad post (lN (zp_Y c)) :=
  zy_get hc 15 (by omega) (by rfl) (by rfl) hp
theorem zy_put {post : Int64 → Prop} (hc : ∀ j, c j < 2 ^ zp_w j) (k : Nat) (hk : k < 16) {sh : Int32} {mask v : Int64} (hs : sh = nI (zp_s zp_w 0 k)) (hm : mask = lN (2 ^ zp_w k - 1))
    {x : Nat} (hv : v = lN x) (hx : x < 2 ^ 63) (hp : post (lN (zp_Y (zc_up c k (x % 2 ^ zp_w k))))) : wpY_put post (lN (zp_Y c)) sh mask v := by
  have h2 : ∀ k, k < 16 → zp_s zp_w 0 k < 64 ∧ zp_w k < 64 := by decide
  show post ((lN (zp_Y c) &&& ((mask <<< (sh.toInt64 &&& 63)) ^^^ (-1))) ||| ((v &&& mask) <<< (sh.toInt64 &&& 63)))
  rw [hs, hm, hv, wb_shl _ (h2 k hk).1, wb_mask (by omega) (h2 k hk).2, wb_shl _ (h2 k hk).1, zp_putY hc hk (Nat.mod_lt _ (Nat.two_pow_pos _))]
  exact hp
/-- put at a cell of three bits -/
theorem zy_put3 {post : Int64 → Prop} (hc : ∀ j, c j < 2 ^ zp_w j) (k : Nat) (hk : k < 10) {sh : Int32} {v : Int64} (hs : sh = nI (3 * k))
    {x : Nat} (hv : v = lN x) (hx : x < 2 ^ 63) (hp : post (lN (zp_Y (zc_up c k (x % 8))))) : wpY_put post (lN (zp_Y c)) sh 7 v :=
  zy_put hc k (by omega) (by rw [zy_s3 hk]; exact hs) (by rw [zy_w3 hk]; rfl) hv hx (by rw [zy_w3 hk]; exact hp)
theorem zy_put2 {post : Int64 → Prop} (hc : ∀ j, c j < 2 ^ zp_w j) (l : Nat) (hl : l < 5) {sh : Int32} {v : Int64} (hs : sh = nI (30 + 2 * l))
    {x : Nat} (hv : v = lN x) (hx : x < 2 ^ 63) (hp : post (lN (zp_Y (zc_up c (10 + l) (x % 4))))) : wpY_put post (lN (zp_Y c)) sh 3 v :=
  zy_put hc (10 + l) (by omega) (by rw [zy_s2 hl]; exact hs) (by rw [zy_w2 hl]; rfl) hv hx (by rw [zy_w2 hl]; exact hp)
theorem zy_up3 {k v : Nat} (hc : ∀ j, c j < 2 ^ zp_w j) (hk : k < 10) (hv : v < 8) : ∀ j, zc_up c k v j < 2 ^ zp_w j := zy_up hc (by rw [zy_w3 hk]; exact hv)
theorem zy_up2 {l v : Nat} (hc : ∀ j, c j < 2 ^ zp_w j) (hl : l < 5) (hv : v < 4) : ∀ j, zc_up c (10 + l) v j < 2 ^ zp_w j := zy_up hc (by rw [zy_w2 hl]; exact hv)
theorem zy_orm (x m : Int64) : x ||| m = (x &&& (m ^^^ (-1))) ||| m := by
  apply wb_inj
  have hm1 : (-1 : Int64).toBitVec = BitVec.allOnes 64 := by decide
  rw [Int64.toBitVec_or, Int64.toBitVec_or, Int64.toBitVec_and, Int64.toBitVec_xor, hm1]
  apply BitVec.eq_of_getLsbD_eq
  intro i hi
  rw [BitVec.getLsbD_or, BitVec.getLsbD_or, BitVec.getLsbD_and, BitVec.getLsbD_xor, BitVec.getLsbD_allOnes]
  cases x.toBitVec.getLsbD i <;> cases m.toBitVec.getLsbD i <;> simp [hi]
theorem zy_or40 (hc : ∀ j, c j < 2 ^ zp_w j) : lN (zp_Y c) ||| 1099511627776 = lN (zp_Y (zc_up c 15 1)) := by
  have h := zp_putY hc (k := 15) (v := 1) (by omega) (by decide)
  have e1 : lN ((2 ^ zp_w 15 - 1) * 2 ^ zp_s zp_w 0 15) = 1099511627776 := by rfl
  have e2 : lN (1 * 2 ^ zp_s zp_w 0 15) = 1099511627776 := by rfl
  rw [e1, e2] at h
  rw [zy_orm, h]
end
section
variable {o g L c : Nat → Nat} {t : Nat} {f_steps f_count f_known f_different : Int32} {a_ops a_args a_length a_next a_table a_far a_found a_who a_what a_tried : Nat → Int32} {a_path a_list a_before : Nat → Int64}
theorem zy_isReady {post : Int32 → Prop} (hC : zx_C o g L a_ops a_args a_length) (hV : zc_V o L c) (ht : t < 3)
    (h1 : zc_R o g L c t → post 1) (h0 : ¬ zc_R o g L c t → post 0) : wpY_isReady post (f_steps, f_count, f_known, f_different, a_ops, a_args, a_length, a_path, a_list, a_next, a_table, a_far, a_found, a_who, a_what, a_before, a_tried) (lN (zp_Y c)) (nI t) := by
  have hB := zp_bX (zx_L5 hC) hV
  have hc := zp_bY (zx_L5 hC) hV
  have hL := (hC.1 t ht).1
  have hb12 := hB (12 + t)
  have hb7 := hB (7 + t)
  have hv7 := hV.2.1 t ht
  have hw := hV.2.2.2.1 t ht
  unfold wpY_isReady
  refine zy_place hc ht (pk_eq (c (7 + t)) 5 (fun e => h0 fun hR => by have := hR.1; omega) (fun e5 => ?_) rfl rfl (by omega) (by omega))
  have hp : c (7 + t) < L t := by omega
  refine zy_waiting hc ht (pk_eq (c (12 + t)) 1 (fun e => h0 fun hR => hR.2.1 e) (fun e1 => nm_r (zy_pc t _) ?_) rfl rfl (by omega) (by omega))
  have hk : zc_pc c t < 15 := by unfold zc_pc; omega
  have hG := (hC.1 t ht).2 _ hp
  have hop : a_ops (nI (5 * t + c (7 + t))).toNatClampNeg = nI (o (zc_pc c t)) := zx_op hC rfl hk
  have har : a_args (nI (5 * t + c (7 + t))).toNatClampNeg = nI (g (zc_pc c t)) := zx_ar hC rfl hk
  have ik : vp_in (nI (5 * t + c (7 + t))) 15 := pk_in _ 15 hk
  have ho11 : o (zc_pc c t) ≤ 11 := hG.1
  have hlock : (o (zc_pc c t) = 7 ∨ c (12 + t) = 2) → wY_isReady_65 post (lN (zp_Y c)) (nI (5 * t + c (7 + t))) f_steps f_count f_known f_different a_ops a_args a_length a_path a_list a_next a_table a_far a_found a_who a_what a_before a_tried := by
    intro hl
    have h2 : g (zc_pc c t) < 2 := by
      refine hG.2.2.2.1 ?_
      rcases hl with h | h
      · exact Or.inl h
      · rcases hw with h3 | h3
        · omega
        · exact Or.inr (Or.inr (Or.inl h3.2.2))
    have hb10 := hB (10 + g (zc_pc c t))
    refine br_f (by decide) (And.intro ik ?_)
    rw [har]
    exact zy_owner hc h2 (pk_eq (c (10 + g (zc_pc c t))) 0 (fun e => h1 ⟨hp, e1, fun _ => e⟩) (fun e => h0 fun hR => e (hR.2.2 hl)) rfl rfl (by omega) (by omega))
  refine And.intro ik (pk_eq (o (zc_pc c t)) 7 (fun e => hlock (Or.inl e)) (fun e7 => And.intro ik ?_) hop rfl (by omega) (by omega))
  refine pk_eq (o (zc_pc c t)) 10 (fun e10 => ?_) (fun e10 => ?_) hop rfl (by omega) (by omega)
  · refine zy_waiting hc ht (pk_eq (c (12 + t)) 2 (fun e => hlock (Or.inr e)) (fun e2 => ?_) rfl rfl (by omega) (by omega))
    exact br_t rfl (h1 ⟨hp, e1, fun h => absurd h (by omega)⟩)
  · refine br_t rfl (h1 ⟨hp, e1, fun h => ?_⟩)
    rcases h with h | h
    · exact absurd h e7
    · rcases hw with h3 | h3
      · omega
      · exact absurd h3.2.2 e10
theorem zy_isEnd {post : Int32 → Prop} (hC : zx_C o g L a_ops a_args a_length) (hV : zc_V o L c)
    (h1 : zt_end o g L c → post 1) (h0 : ¬ zt_end o g L c → post 0) : wpY_isEnd post (f_steps, f_count, f_known, f_different, a_ops, a_args, a_length, a_path, a_list, a_next, a_table, a_far, a_found, a_who, a_what, a_before, a_tried) (lN (zp_Y c)) := by
  unfold wpY_isEnd
  refine zy_isReady (t := 0) hC hV (by omega) (fun a0 => br_f (by decide) (h0 fun h => h 0 (by omega) a0)) (fun a0 => br_t rfl ?_)
  refine zy_isReady (t := 1) hC hV (by omega) (fun a1 => br_f (by decide) (h0 fun h => h 1 (by omega) a1)) (fun a1 => br_t rfl ?_)
  refine zy_isReady (t := 2) hC hV (by omega) (fun a2 => br_f (by decide) (h0 fun h => h 2 (by omega) a2)) (fun a2 => br_t rfl (h1 fun t ht => ?_))
  have : t = 0 ∨ t = 1 ∨ t = 2 := by omega
  rcases this with e | e | e <;> subst e <;> assumption
theorem zy_isDone {post : Int32 → Prop} (hC : zx_C o g L a_ops a_args a_length) (hV : zc_V o L c)
    (h1 : (∀ t, t < 3 → ¬ c (7 + t) < L t) → post 1) (h0 : ¬ (∀ t, t < 3 → ¬ c (7 + t) < L t) → post 0) : wpY_isDone post (lN (zp_Y c)) := by
  have hB := zp_bX (zx_L5 hC) hV
  have hc := zp_bY (zx_L5 hC) hV
  have key : ∀ t, t < 3 → (c (7 + t) = 5 ↔ ¬ c (7 + t) < L t) := by
    intro t ht
    have := hV.2.1 t ht
    have := zx_L5 hC t ht
    omega
  have b0 := hB (7 + 0)
  have b1 := hB (7 + 1)
  have b2 := hB (7 + 2)
  unfold wpY_isDone
  refine zy_place (t := 0) hc (by omega) (pk_eq (c (7 + 0)) 5 (fun a0 => ?_) (fun a0 => h0 fun h => a0 ((key 0 (by omega)).mpr (h 0 (by omega)))) rfl rfl (by omega) (by omega))
  refine zy_place (t := 1) hc (by omega) (pk_eq (c (7 + 1)) 5 (fun a1 => ?_) (fun a1 => h0 fun h => a1 ((key 1 (by omega)).mpr (h 1 (by omega)))) rfl rfl (by omega) (by omega))
  refine zy_place (t := 2) hc (by omega) (pk_eq (c (7 + 2)) 5 (fun a2 => h1 fun t ht => ?_) (fun a2 => h0 fun h => a2 ((key 2 (by omega)).mpr (h 2 (by omega)))) rfl rfl (by omega) (by omega))
  have : t = 0 ∨ t = 1 ∨ t = 2 := by omega
  rcases this with e | e | e <;> subst e
  · exact (key 0 (by omega)).mp a0
  · exact (key 1 (by omega)).mp a1
  · exact (key 2 (by omega)).mp a2
theorem zy_fin {post : Int64 → Prop} (hC : zx_C o g L a_ops a_args a_length) (ht : t < 3) {d : Nat → Nat} (hd : ∀ j, d j < 2 ^ zp_w j) {x4 x9 : Int32} {n : Nat}
    (he : x4 + x9 = nI n) (hn : n < 2 ^ 31) (hp : post (lN (zp_Y (zc_up d (7 + t) (zc_pl L t n))))) :
    wY_after_359 post (nI t) x4 x9 (lN (zp_Y d)) f_steps f_count f_known f_different a_ops a_args a_length a_path a_list a_next a_table a_far a_found a_who a_what a_before a_tried := by
  have hL := (hC.1 t ht).1
  refine And.intro (pk_in t 3 ht) (pk_lt n (L t) (fun h => ?_) (fun h => ?_) he (zx_ln hC rfl ht) hn (by omega))
  · have e : zc_pl L t n = n := by unfold zc_pl; rw [if_pos h]
    rw [e] at hp
    refine zy_put3 hd (7 + t) (by omega) (zy_i21 t) (x := n) (by rw [he]; exact nI_l hn) (by omega) ?_
    rw [Nat.mod_eq_of_lt (by omega)]
    exact hp
  · have e : zc_pl L t n = 5 := by unfold zc_pl; rw [if_neg (by omega)]
    rw [e] at hp
    exact zy_put3 hd (7 + t) (by omega) (zy_i21 t) (x := 5) (by rfl) (by omega) hp
end
