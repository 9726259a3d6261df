/-! the tables of both sides -/
def zh_h (x : Int64) : Nat := (x * (-7046029254386353131)).toBitVec.toNat / 2 ^ 52
theorem zh_lt (x : Int64) : zh_h x < 4096 := by
  unfold zh_h
  have := (x * (-7046029254386353131)).toBitVec.isLt
  omega
theorem zh_y (y : Int64) : ((y.toUInt64 >>> ((52 : Int32).toInt64.toUInt64 &&& Int64.toUInt64 63)).toInt64).toInt32 = nI (y.toBitVec.toNat / 2 ^ 52) := by
  obtain ⟨n, hn, rfl⟩ := wb_of y
  have e : ((lN n).toUInt64 >>> ((52 : Int32).toInt64.toUInt64 &&& Int64.toUInt64 63)).toInt64 = lN (n / 2 ^ 52) := wb_shr (n := n) (k := 52) hn (by omega)
  rw [e, lN_i, wb_tn hn]
theorem zh_eq (x : Int64) : (((x * (-7046029254386353131)).toUInt64 >>> ((52 : Int32).toInt64.toUInt64 &&& Int64.toUInt64 63)).toInt64).toInt32 = nI (zh_h x) := zh_y _
/-- the list l is kept in found and slots -/
def zb_T (pk : (Nat → Nat) → Nat) (l : List (Nat → Nat)) (found : Nat → Int64) (slots : Nat → Int32) : Prop :=
  l.length ≤ 1201 ∧ (∀ i, i < l.length → found i = lN (pk (zb_at l i))) ∧ ∃ q, (∀ j, j < 4096 → slots j = nI (q j)) ∧ zh_I zh_h q found l.length
section
variable {pk : (Nat → Nat) → Nat} {l : List (Nat → Nat)} {found : Nat → Int64} {slots : Nat → Int32} {P : (Nat → Nat) → Prop}
theorem zb_T_new {q : Nat → Nat} {x : Nat → Nat} {d : Nat} (hl : l.length ≤ 1200) (hf : ∀ i, i < l.length → found i = lN (pk (zb_at l i)))
    (hq : ∀ j, j < 4096 → slots j = nI (q j)) (I : zh_I zh_h q found l.length) (hd : d < 4096) (h0 : q ((zh_h (lN (pk x)) + d) % 4096) = 0)
    (h1 : ∀ d', d' < d → q ((zh_h (lN (pk x)) + d') % 4096) ≠ 0) :
    zb_T pk (l ++ [x]) (vp_updL found l.length (lN (pk x))) (upd slots ((zh_h (lN (pk x)) + d) % 4096) (nI (l.length + 1))) := by
  have e1 : (l ++ [x]).length = l.length + 1 := by simp
  refine ⟨by omega, fun i hi => ?_, zc_up q ((zh_h (lN (pk x)) + d) % 4096) (l.length + 1), fun j hj => ?_, ?_⟩
  · rw [e1] at hi
    by_cases e : i = l.length
    · rw [e, pk_uLs, zb_at_new]
    · rw [pk_uLn e, zb_at_app (by omega)]; exact hf i (by omega)
  · unfold upd zc_up
    split
    · rfl
    · exact hq j hj
  · rw [e1]
    exact zh_put I (lN (pk x)) hd h0 h1 (fun i hi => pk_uLn (by omega)) pk_uLs
/-- where the search for the number of x ends, and what is there -/
theorem zb_T_find (T : zb_T pk l found slots) (hinj : ∀ x y, P x → P y → lN (pk x) = lN (pk y) → x = y) (hl : ∀ x, x ∈ l → P x) {x : Nat → Nat} (hx : P x) :
    ∃ d q, d < 4096 ∧ (∀ j, j < 4096 → slots j = nI (q j)) ∧ (∀ j, j < 4096 → q j ≤ l.length) ∧ zh_I zh_h q found l.length ∧
      (∀ d', d' < d → q ((zh_h (lN (pk x)) + d') % 4096) ≠ 0 ∧ found (q ((zh_h (lN (pk x)) + d') % 4096) - 1) ≠ lN (pk x)) ∧
      ((q ((zh_h (lN (pk x)) + d) % 4096) = 0 ∧ x ∉ l) ∨
       (q ((zh_h (lN (pk x)) + d) % 4096) ≠ 0 ∧ found (q ((zh_h (lN (pk x)) + d) % 4096) - 1) = lN (pk x) ∧ q ((zh_h (lN (pk x)) + d) % 4096) - 1 < l.length ∧
         zb_at l (q ((zh_h (lN (pk x)) + d) % 4096) - 1) = x)) := by
  obtain ⟨t1, t2, q, t3, t4⟩ := T
  obtain ⟨d, d1, d2, d3, d4⟩ := zh_find t4 (by omega) (lN (pk x))
  refine ⟨d, q, d1, t3, t4.1, t4, d3, ?_⟩
  rcases d4 with ⟨h1, h2⟩ | ⟨h1, h2, h3⟩
  · refine Or.inl ⟨h1, fun hm => ?_⟩
    obtain ⟨i, hi, e⟩ := zb_mem_at hm
    exact h2 i hi (by rw [t2 i hi, e])
  · refine Or.inr ⟨h1, h3, by omega, ?_⟩
    have hi : q ((zh_h (lN (pk x)) + d) % 4096) - 1 < l.length := by omega
    rw [t2 _ hi] at h3
    exact hinj _ _ (hl _ (zb_at_mem hi)) hx h3
theorem zb_T_0 (hs : ∀ j, j < 4096 → slots j = 0) : zb_T pk [] found slots :=
  ⟨by simp, fun i hi => by simp at hi, fun _ => 0, fun j hj => by rw [hs j hj]; rfl, zh_0 fun _ _ => rfl⟩
end
theorem zh_next (b e : Nat) (hb : b < 4096) : nI ((b + e) % 4096) + 1 - (nI ((b + e) % 4096) + 1) / 4096 * 4096 = nI ((b + (e + 1)) % 4096) := by
  rw [nI_1]
  have h := pk_rem (a := (b + e) % 4096 + 1) (d := 4096) (by omega) (by omega) (by omega)
  refine h.trans (congrArg nI ?_)
  omega
theorem zh_next' (b e : Nat) (hb : b < 4096) : (nI ((b + e) % 4096) + 1) &&& 4095 = nI ((b + (e + 1)) % 4096) := by
  rw [nI_1]
  have h := pk_andN (n := (b + e) % 4096 + 1) (by omega) (m := 4095) 12 (by decide)
  refine h.trans (congrArg nI ?_)
  omega
section
variable {f_steps f_foundCount : Int32} {a_ops a_args a_codeLength a_cell a_cameFrom a_cameBy a_distance a_slots a_isEnding a_walkLeft a_walkAsleep : Nat → Int32} {a_trail a_found a_walkState : Nat → Int64}
/-- the component's search -/
theorem zx_slotOf {post : Int32 → Prop} {x : Int64} {q : Nat → Nat} {n d : Nat} (hn : n ≤ 1201) (hq : ∀ j, j < 4096 → a_slots j = nI (q j)) (hqn : ∀ j, j < 4096 → q j ≤ n)
    (hd : d < 4096) (h1 : ∀ d', d' < d → q ((zh_h x + d') % 4096) ≠ 0 ∧ a_found (q ((zh_h x + d') % 4096) - 1) ≠ x)
    (h2 : q ((zh_h x + d) % 4096) = 0 ∨ (q ((zh_h x + d) % 4096) ≠ 0 ∧ a_found (q ((zh_h x + d) % 4096) - 1) = x))
    (hp : post (nI ((zh_h x + d) % 4096))) : wpX_slotOf post (f_steps, f_foundCount, a_ops, a_args, a_codeLength, a_trail, a_cell, a_found, a_cameFrom, a_cameBy, a_distance, a_slots, a_isEnding, a_walkState, a_walkLeft, a_walkAsleep) x := by
  have hb := zh_lt x
  have sl : ∀ e, a_slots (nI ((zh_h x + e) % 4096)).toNatClampNeg = nI (q ((zh_h x + e) % 4096)) := by
    intro e
    rw [nI_clamp (by omega)]
    exact hq _ (by omega)
  have key : ∀ f e, e + f = d → wX_slotOf_13 post x f_steps f_foundCount a_ops a_args a_codeLength a_trail a_cell a_found a_cameFrom a_cameBy a_distance a_slots a_isEnding a_walkState a_walkLeft a_walkAsleep (f + 1) (nI ((zh_h x + e) % 4096)) (nI e) := by
    intro f
    induction f with
    | zero =>
      intro e he
      have ed : e = d := by omega
      subst ed
      have hqe := hqn ((zh_h x + e) % 4096) (by omega)
      refine br_f (nI_ge (b := 4096) (by omega) (by decide)) (And.intro (vp_in_nI (by omega) (by omega)) ?_)
      refine pk_eq (q ((zh_h x + e) % 4096)) 0 (fun _ => hp) (fun h0 => ?_) (sl e) rfl (by omega) (by omega)
      have e1 : a_slots (nI ((zh_h x + e) % 4096)).toNatClampNeg - 1 = nI (q ((zh_h x + e) % 4096) - 1) := by
        rw [sl e]
        exact pk_sub (b := 1) (by omega)
      refine And.intro (vp_in_nI (by omega) (by omega)) (And.intro (pk_in _ 1201 (by omega) e1) (br_t ?_ hp))
      rw [e1, nI_clamp (by omega)]
      rcases h2 with h2 | h2
      · exact absurd h2 h0
      · exact h2.2
    | succ f ih =>
      intro e he
      have hqe := hqn ((zh_h x + e) % 4096) (by omega)
      have hh := h1 e (by omega)
      refine br_f (nI_ge (b := 4096) (by omega) (by decide)) (And.intro (vp_in_nI (by omega) (by omega)) ?_)
      refine pk_eq (q ((zh_h x + e) % 4096)) 0 (fun h0 => absurd h0 hh.1) (fun h0 => ?_) (sl e) rfl (by omega) (by omega)
      have e1 : a_slots (nI ((zh_h x + e) % 4096)).toNatClampNeg - 1 = nI (q ((zh_h x + e) % 4096) - 1) := by
        rw [sl e]
        exact pk_sub (b := 1) (by omega)
      refine And.intro (vp_in_nI (by omega) (by omega)) (And.intro (pk_in _ 1201 (by omega) e1) (br_f ?_ ?_))
      · rw [e1, nI_clamp (by omega)]; exact hh.2
      · exact And.intro (by decide) (nm_r (zh_next _ e hb) (nm_r (nI_1 e) (ih (e + 1) (by omega))))
  have k0 := key d 0 (by omega)
  have e0 : (zh_h x + 0) % 4096 = zh_h x := by omega
  rw [e0] at k0
  exact nm_r (zh_eq x) ⟨d + 1, k0⟩
theorem zx_keep {post : SX → Prop} {l : List (Nat → Nat)} {x : Nat → Nat} {P : (Nat → Nat) → Prop} {p1 p2 p3 : Int32} (T : zb_T zp_X l a_found a_slots)
    (hinj : ∀ x y, P x → P y → lN (zp_X x) = lN (zp_X y) → x = y) (hl : ∀ x, x ∈ l → P x) (hx : P x)
    (h0 : (x ∈ l ∨ 1200 < l.length) → post (f_steps, nI l.length, a_ops, a_args, a_codeLength, a_trail, a_cell, a_found, a_cameFrom, a_cameBy, a_distance, a_slots, a_isEnding, a_walkState, a_walkLeft, a_walkAsleep))
    (h1 : x ∉ l → l.length ≤ 1200 → ∀ s', zb_T zp_X (l ++ [x]) (vp_updL a_found l.length (lN (zp_X x))) s' →
      post (f_steps, nI (l.length + 1), a_ops, a_args, a_codeLength, a_trail, a_cell, vp_updL a_found l.length (lN (zp_X x)), upd a_cameFrom l.length p1, upd a_cameBy l.length p2, upd a_distance l.length p3, s', a_isEnding, a_walkState, a_walkLeft, a_walkAsleep)) :
    wpX_keep post (f_steps, nI l.length, a_ops, a_args, a_codeLength, a_trail, a_cell, a_found, a_cameFrom, a_cameBy, a_distance, a_slots, a_isEnding, a_walkState, a_walkLeft, a_walkAsleep) (lN (zp_X x)) p1 p2 p3 := by
  obtain ⟨d, q, d1, d2, d3, d4, d5, d6⟩ := zb_T_find T hinj hl hx
  have hlen := T.1
  unfold wpX_keep
  refine zx_slotOf (q := q) (n := l.length) (d := d) hlen d2 d3 d1 d5 ?_ ?_
  · rcases d6 with h | h
    · exact Or.inl h.1
    · exact Or.inr ⟨h.1, h.2.1⟩
  have hq := d3 ((zh_h (lN (zp_X x)) + d) % 4096) (by omega)
  refine And.intro (vp_in_nI (by omega) (by omega)) (pk_eq (q ((zh_h (lN (zp_X x)) + d) % 4096)) 0 (fun e => ?_) (fun e => ?_) ?_ rfl (by omega) (by omega))
  · have hxn : x ∉ l := by
      rcases d6 with h | h
      · exact h.2
      · exact absurd e h.1
    refine pk_le l.length 1200 (fun hle => ?_) (fun hle => h0 (Or.inr hle)) rfl rfl (by omega) (by omega)
    have i1 : vp_in (nI l.length) 1201 := vp_in_nI (by omega) (by omega)
    have ec : (nI l.length).toNatClampNeg = l.length := nI_clamp (by omega)
    have es : (nI ((zh_h (lN (zp_X x)) + d) % 4096)).toNatClampNeg = (zh_h (lN (zp_X x)) + d) % 4096 := nI_clamp (by omega)
    refine And.intro i1 (nm_e (And.intro i1 (nm_e (And.intro i1 (nm_e (And.intro i1 (nm_e (nm_r (nI_1 _) (And.intro (vp_in_nI (by omega) (by omega)) (nm_e ?_))))))))))
    rw [ec, es]
    exact h1 hxn hle _ (zb_T_new hle T.2.1 d2 d4 d1 e fun d' hd' => (d5 d' hd').1)
  · rcases d6 with h | h
    · exact absurd h.1 e
    · refine h0 (Or.inl ?_)
      rw [← h.2.2.2]
      exact zb_at_mem h.2.2.1
  · rw [nI_clamp (by omega)]
    exact d2 _ (by omega)
end
section
variable {f_steps f_count f_known f_different : Int32} {a_ops a_args a_length a_next a_table a_far a_found a_who a_what a_tried : Nat → Int32} {a_path a_list a_before : Nat → Int64}
/-- the reference's search -/
theorem zy_number {post : Int32 → SY → Prop} {l : List (Nat → Nat)} {x : Nat → Nat} {P : (Nat → Nat) → Prop} (T : zb_T zp_Y l a_list a_table) (hle : l.length ≤ 1200)
    (hinj : ∀ x y, P x → P y → lN (zp_Y x) = lN (zp_Y y) → x = y) (hl : ∀ x, x ∈ l → P x) (hx : P x)
    (h0 : ∀ m, m < l.length → zb_at l m = x → post (nI m) (f_steps, nI l.length, f_known, f_different, a_ops, a_args, a_length, a_path, a_list, a_next, a_table, a_far, a_found, a_who, a_what, a_before, a_tried))
    (h1 : x ∉ l → ∀ s', zb_T zp_Y (l ++ [x]) (vp_updL a_list l.length (lN (zp_Y x))) s' →
      post (nI l.length) (f_steps, nI (l.length + 1), f_known, f_different, a_ops, a_args, a_length, a_path, vp_updL a_list l.length (lN (zp_Y x)), a_next, s', a_far, a_found, a_who, a_what, a_before, a_tried)) :
    wpY_number post (f_steps, nI l.length, f_known, f_different, a_ops, a_args, a_length, a_path, a_list, a_next, a_table, a_far, a_found, a_who, a_what, a_before, a_tried) (lN (zp_Y x)) := by
  obtain ⟨d, q, d1, d2, d3, d4, d5, d6⟩ := zb_T_find T hinj hl hx
  have hb := zh_lt (lN (zp_Y x))
  have sl : ∀ e, a_table (nI ((zh_h (lN (zp_Y x)) + e) % 4096)).toNatClampNeg = nI (q ((zh_h (lN (zp_Y x)) + e) % 4096)) := by
    intro e
    rw [nI_clamp (by omega)]
    exact d2 _ (by omega)
  have hqd := d3 ((zh_h (lN (zp_Y x)) + d) % 4096) (by omega)
  have fin : wY_number_48 post (lN (zp_Y x)) (nI ((zh_h (lN (zp_Y x)) + d) % 4096)) f_steps (nI l.length) f_known f_different a_ops a_args a_length a_path a_list a_next a_table a_far a_found a_who a_what a_before a_tried := by
    have i4 : vp_in (nI ((zh_h (lN (zp_Y x)) + d) % 4096)) 4096 := vp_in_nI (by omega) (by omega)
    refine And.intro i4 (pk_eq (q ((zh_h (lN (zp_Y x)) + d) % 4096)) 0 (fun e => ?_) (fun e => And.intro i4 ?_) (sl d) rfl (by omega) (by omega))
    · have hxn : x ∉ l := by
        rcases d6 with h | h
        · exact h.2
        · exact absurd e h.1
      have ec : (nI l.length).toNatClampNeg = l.length := nI_clamp (by omega)
      have es : (nI ((zh_h (lN (zp_Y x)) + d) % 4096)).toNatClampNeg = (zh_h (lN (zp_Y x)) + d) % 4096 := nI_clamp (by omega)
      refine And.intro (vp_in_nI (by omega) (by omega)) (nm_e (nm_r (nI_1 _) (And.intro i4 (nm_e (And.intro i4 ?_)))))
      rw [ec, es, nI_1, pk_us, nI_pred]
      exact h1 hxn _ (zb_T_new hle T.2.1 d2 d4 d1 e fun d' hd' => (d5 d' hd').1)
    · rcases d6 with h | h
      · exact absurd h.1 e
      · have e1 : a_table (nI ((zh_h (lN (zp_Y x)) + d) % 4096)).toNatClampNeg - 1 = nI (q ((zh_h (lN (zp_Y x)) + d) % 4096) - 1) := by
          rw [sl d]
          exact pk_sub (b := 1) (by omega)
        rw [e1]
        exact h0 _ h.2.2.1 h.2.2.2
  have key : ∀ f e, e + f = d → wY_number_10 post (lN (zp_Y x)) f_steps (nI l.length) f_known f_different a_ops a_args a_length a_path a_list a_next a_table a_far a_found a_who a_what a_before a_tried (f + 1) (nI ((zh_h (lN (zp_Y x)) + e) % 4096)) := by
    intro f
    induction f with
    | zero =>
      intro e he
      have ed : e = d := by omega
      subst ed
      have i4 : vp_in (nI ((zh_h (lN (zp_Y x)) + e) % 4096)) 4096 := vp_in_nI (by omega) (by omega)
      refine And.intro i4 (pk_le (q ((zh_h (lN (zp_Y x)) + e) % 4096)) 0 (fun _ => fin) (fun h0 => ?_) (sl e) rfl (by omega) (by omega))
      have e1 : a_table (nI ((zh_h (lN (zp_Y x)) + e) % 4096)).toNatClampNeg - 1 = nI (q ((zh_h (lN (zp_Y x)) + e) % 4096) - 1) := by
        rw [sl e]
        exact pk_sub (b := 1) (by omega)
      refine And.intro i4 (And.intro (pk_in _ 1201 (by omega) e1) (br_t ?_ fin))
      rw [e1, nI_clamp (by omega)]
      rcases d6 with h | h
      · omega
      · exact h.2.1
    | succ f ih =>
      intro e he
      have i4 : vp_in (nI ((zh_h (lN (zp_Y x)) + e) % 4096)) 4096 := vp_in_nI (by omega) (by omega)
      have hqe := d3 ((zh_h (lN (zp_Y x)) + e) % 4096) (by omega)
      have hh := d5 e (by omega)
      refine And.intro i4 (pk_le (q ((zh_h (lN (zp_Y x)) + e) % 4096)) 0 (fun h0 => absurd (by omega) hh.1) (fun h0 => ?_) (sl e) rfl (by omega) (by omega))
      have e1 : a_table (nI ((zh_h (lN (zp_Y x)) + e) % 4096)).toNatClampNeg - 1 = nI (q ((zh_h (lN (zp_Y x)) + e) % 4096) - 1) := by
        rw [sl e]
        exact pk_sub (b := 1) (by omega)
      refine And.intro i4 (And.intro (pk_in _ 1201 (by omega) e1) (br_f ?_ ?_))
      · rw [e1, nI_clamp (by omega)]; exact hh.2
      · exact nm_r (zh_next' _ e hb) (ih (e + 1) (by omega))
  have k0 := key d 0 (by omega)
  have e0 : (zh_h (lN (zp_Y x)) + 0) % 4096 = zh_h (lN (zp_Y x)) := by omega
  rw [e0] at k0
  exact nm_r (zh_eq _) ⟨d + 1, k0⟩
end
