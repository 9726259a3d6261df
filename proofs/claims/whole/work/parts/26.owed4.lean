/-! soonest and step, owed -/
section
variable {o g L c0 : Nat → Nat} {l : List (Nat → Nat)} {f_steps f_count f_known f_different : Int32} {a_ops a_args a_length a_next a_table a_far a_found a_who a_what a_tried : Nat → Int32} {a_path a_list a_before : Nat → Int64}
def zs_T (o g L : Nat → Nat) (l : List (Nat → Nat)) (w k : Nat) : Prop := k < l.length ∧ zs_S o g L (zb_at l k) w
theorem zy_measure {post : SY → Prop} {w : Nat} (hC : zx_C o g L a_ops a_args a_length) (hV : ∀ x, x ∈ l → zc_V o L x) (hw : w ≤ 3) (hM : l.length ≤ 1200) (h1 : 1 ≤ l.length) (hd : l.Nodup)
    (hl : ∀ i, i < l.length → a_list i = lN (zp_Y (zb_at l i))) (hN : zb_N o g L l (3 * l.length) a_next)
    (hp : ∀ (far : Nat → Nat) (af : Nat → Int32), zg_F l.length (zb_E o g L l) (zs_T o g L l w) far → zs_A l.length af far → post (f_steps, nI l.length, f_known, f_different, a_ops, a_args, a_length, a_path, a_list, a_next, a_table, af, a_found, a_who, a_what, a_before, a_tried)) :
    wpY_measure post (f_steps, nI l.length, f_known, f_different, a_ops, a_args, a_length, a_path, a_list, a_next, a_table, a_far, a_found, a_who, a_what, a_before, a_tried) (nI w) := by
  have key : ∀ d i (af : Nat → Int32), i + d = l.length → (∀ j, j < i → (zs_S o g L (zb_at l j) w → af j = nI 0) ∧ (¬ zs_S o g L (zb_at l j) w → af j = nI 1000)) →
      wY_measure_2 post (nI w) f_steps (nI l.length) f_known f_different (d + 1) (nI i) a_ops a_args a_length a_path a_list a_next a_table af a_found a_who a_what a_before a_tried := by
    intro d
    induction d with
    | zero =>
      intro i af hi hA
      have e : i = l.length := by omega
      subst e
      refine pk_le l.length l.length (fun _ => ?_) (fun h => by omega) rfl rfl (by omega) (by omega)
      refine ⟨_, zy_me45 (S := zs_T o g L l w) hM h1 hd hN hp _ (fun j => @ite _ (zs_S o g L (zb_at l j) w) (Classical.propDecidable _) 0 1000) af ?_ ?_ (Nat.lt_succ_self _)⟩
      · intro k hk
        dsimp only
        by_cases hs : zs_S o g L (zb_at l k) w
        · rw [if_pos hs]
          exact ⟨by omega, fun _ => ⟨hk, hs⟩, fun _ => rfl⟩
        · rw [if_neg hs]
          exact ⟨by omega, fun h => by omega, fun h => absurd h.2 hs⟩
      · intro k hk
        dsimp only
        by_cases hs : zs_S o g L (zb_at l k) w
        · rw [if_pos hs]; exact (hA k hk).1 hs
        · rw [if_neg hs]; exact (hA k hk).2 hs
    | succ d ih =>
      intro i af hi hA
      have hil : i < l.length := by omega
      have hVi := hV _ (zb_at_mem hil)
      have ii : vp_in (nI i) 1201 := vp_in_nI (by omega) (by omega)
      have ec : (nI i).toNatClampNeg = i := nI_clamp (by omega)
      have ef : a_list (nI i).toNatClampNeg = lN (zp_Y (zb_at l i)) := by rw [ec]; exact hl i hil
      refine pk_le l.length i (fun h => by omega) (fun h => And.intro ii ?_) rfl rfl (by omega) (by omega)
      rw [ef]
      have up : ∀ (v : Int32), (zs_S o g L (zb_at l i) w → v = nI 0) → (¬ zs_S o g L (zb_at l i) w → v = nI 1000) →
          ∀ j, j < i + 1 → (zs_S o g L (zb_at l j) w → upd af (nI i).toNatClampNeg v j = nI 0) ∧ (¬ zs_S o g L (zb_at l j) w → upd af (nI i).toNatClampNeg v j = nI 1000) := by
        intro v v1 v2 j hj
        rw [ec]
        unfold upd
        by_cases e : j = i
        · subst e; rw [if_pos rfl]; exact ⟨v1, v2⟩
        · rw [if_neg e]; exact hA j (by omega)
      refine zy_isSought hC hVi hw (fun hs => br_f (by decide) (And.intro ii (nm_e (nm_r (nI_1 i) (ih (i + 1) _ (by omega) ?_))))) (fun hs => br_t rfl (And.intro ii (nm_e (nm_r (nI_1 i) (ih (i + 1) _ (by omega) ?_)))))
      · exact up 0 (fun _ => rfl) (fun h => absurd hs h)
      · exact up 1000 (fun h => absurd h hs) (fun _ => rfl)
  exact ⟨l.length + 1, key _ 0 a_far (by omega) fun j hj => by omega⟩
theorem zy_soonest {post : Int32 → SY → Prop} {w : Nat} (hC : zx_C o g L a_ops a_args a_length) (hV : zc_V o L c0) {n : Nat} (hn : n ≤ 30) (hpth : a_path n = lN (zp_Y c0))
    (hk : f_known = 0 ∨ (f_known = 1 ∧ zy_S o g L c0 f_count a_list a_next)) (hw : w ≤ 3)
    (h0 : 1200 < (zb_F o g L c0).length → ∀ (count : Int32) (list : Nat → Int64) (next table : Nat → Int32), zy_S o g L c0 count list next →
      post (-2) (nI n, count, 1, f_different, a_ops, a_args, a_length, a_path, list, next, table, a_far, a_found, a_who, a_what, a_before, a_tried))
    (h1 : (zb_F o g L c0).length ≤ 1200 → ∀ (count : Int32) (list : Nat → Int64) (next table af : Nat → Int32) (far : Nat → Nat), zy_S o g L c0 count list next →
      zg_F (zb_F o g L c0).length (zb_E o g L (zb_F o g L c0)) (zs_T o g L (zb_F o g L c0) w) far → zs_A (zb_F o g L c0).length af far →
      (far 0 = 1000 → post (-3) (nI n, count, 1, f_different, a_ops, a_args, a_length, a_path, list, next, table, af, a_found, a_who, a_what, a_before, a_tried)) ∧
      (far 0 ≠ 1000 → post (nI (far 0)) (nI n, count, 1, f_different, a_ops, a_args, a_length, a_path, list, next, table, af, a_found, a_who, a_what, a_before, a_tried))) :
    wpY_soonest post (nI n, f_count, f_known, f_different, a_ops, a_args, a_length, a_path, a_list, a_next, a_table, a_far, a_found, a_who, a_what, a_before, a_tried) (nI w) := by
  have hFV : ∀ x, x ∈ zb_F o g L c0 → zc_V o L x := zb_V hC.1 hV 3600
  have hF1 : 1 ≤ (zb_F o g L c0).length := (zb_len 3600).1
  have hFd : (zb_F o g L c0).Nodup := zb_nodup 3600
  unfold wpY_soonest
  refine zy_within (a := 0) (b := 3) rfl rfl (by omega) (by omega) (fun _ _ _ _ => br_f (by decide) ?_) (fun hno => absurd rfl (hno w (by omega) (by omega)))
  refine zy_know hC hV hn hpth hk (fun hm count list next table hS => br_t rfl (h0 hm count list next table hS)) (fun hm count list next table hS => br_f (by decide) ?_)
  have hS' := hS
  obtain ⟨s1, s2, s3⟩ := hS
  subst s1
  refine zy_measure hC hFV hw hm hF1 hFd s2 s3 fun far af hF hA => ?_
  have hh := h1 hm _ list next table af far hS' hF hA
  have f0 := hF.1 0 hF1
  have e0 : af 0 = nI (far 0) := hA 0 hF1
  refine pk_eq (far 0) 1000 (fun e => hh.1 e) (fun e => ?_) e0 rfl (by omega) (by omega)
  rw [e0]
  exact hh.2 e
/-- the row to the nearest: the lowest thread that comes nearer -/
theorem zy_stepL {post : Int32 → SY → Prop} {key dd far : Nat → Nat} {G kk : Nat} {S : Nat → Prop} (hM : l.length ≤ 1200) (hd : l.Nodup) (hN : zb_N o g L l (3 * l.length) a_next)
    (hB : zg_B l.length (zb_E o g L l) key dd) (hF : zg_F l.length (zb_E o g L l) S far) (hA : zs_A l.length a_far far) (hSn : ∀ k, S k → k < l.length) (hG : G < l.length) (hS : S G) (hf : ∀ s, S s → G ≤ s)
    (hb : dd G ≤ 30) (hkk : kk < dd G) (hp : post (nI (key (zg_an key G (dd G - 1 - kk)) % 3)) (f_steps, f_count, f_known, f_different, a_ops, a_args, a_length, a_path, a_list, a_next, a_table, a_far, a_found, a_who, a_what, a_before, a_tried)) :
    ∃ n, wY_step_32 post (nI kk) f_steps f_count f_known f_different a_ops a_args a_length a_path a_list a_next a_table a_far a_found a_who a_what a_before a_tried n 0 0 0 := by
  have outer : ∀ e j (th : Int32), j + e = kk + 1 → (j = kk + 1 → th = nI (key (zg_an key G (dd G - 1 - kk)) % 3)) → wY_step_32 post (nI kk) f_steps f_count f_known f_different a_ops a_args a_length a_path a_list a_next a_table a_far a_found a_who a_what a_before a_tried (e + 1) (nI (zg_an key G (dd G - j))) th (nI j) := by
    intro e
    induction e with
    | zero =>
      intro j th hj hth
      refine pk_lt kk j (fun _ => ?_) (fun h => by omega) rfl rfl (by omega) (by omega)
      rw [hth (by omega)]
      exact hp
    | succ e ih =>
      intro j th hj hth
      refine pk_lt kk j (fun h => by omega) (fun _ => ?_) rfl rfl (by omega) (by omega)
      have eq1 : dd G - j = dd G - 1 - j + 1 := by omega
      rw [eq1]
      have hq : dd G - 1 - j < dd G := by omega
      have hJ := ih (j + 1) (nI (key (zg_an key G (dd G - 1 - j)) % 3)) (by omega) (by
        intro h
        have : j = kk := by omega
        rw [this])
      have eq2 : dd G - (j + 1) = dd G - 1 - j := by omega
      rw [eq2] at hJ
      generalize dd G - 1 - j = q at *
      have a1 := (zg_an_d hB hG (q + 1) (by omega)).1
      have a0 := (zg_an_d hB hG q (by omega)).1
      have fa1 := zg_far_an hF hB hSn hG hS hf (by omega) (q := q + 1) (by omega)
      have fa0 := zg_far_an hF hB hSn hG hS hf (by omega) (q := q) (by omega)
      have hE := zg_an_E hB hG hq
      have i4 : vp_in (nI (zg_an key G (q + 1))) 1201 := vp_in_nI (by omega) (by omega)
      have ef1 : a_far (nI (zg_an key G (q + 1))).toNatClampNeg - 1 = nI q := by
        rw [nI_clamp (by omega), hA _ a1, fa1, nI_pred]
      have inner : ∀ f t, t + f = key (zg_an key G q) % 3 → wY_step_41 post (wY_step_32 post (nI kk) f_steps f_count f_known f_different a_ops a_args a_length a_path a_list a_next a_table a_far a_found a_who a_what a_before a_tried (e + 1)) (nI kk) (nI (zg_an key G (q + 1))) (nI j) f_steps f_count f_known f_different a_ops a_args a_length a_path a_list a_next a_table a_far a_found a_who a_what a_before a_tried (f + 1) (nI t) := by
        intro f
        induction f with
        | zero =>
          intro t ht
          have et : t = key (zg_an key G q) % 3 := by omega
          have i3 : vp_in (3 * nI (zg_an key G (q + 1)) + nI t) 3603 := pk_in _ 3603 (by omega) (zy_i3 _ t)
          have ec3 : (3 * nI (zg_an key G (q + 1)) + nI t).toNatClampNeg = 3 * zg_an key G (q + 1) + t := by rw [zy_i3, nI_clamp (by omega)]
          rw [← et] at hE hJ
          obtain ⟨m, m1, m2, m3⟩ := (hN hM _ t hE.2.1 a1 (by omega)).2 hE.2.2.2.1
          have em : m = zg_an key G q := zb_inj hd m1 a0 (m3.trans hE.2.2.2.2)
          subst em
          have en : a_next (3 * nI (zg_an key G (q + 1)) + nI t).toNatClampNeg = nI (zg_an key G q) := by rw [ec3]; exact m2
          refine And.intro i3 (br_f (by rw [en]; exact nI_pos (by omega)) (And.intro i3 (And.intro (by rw [en]; exact vp_in_nI (by omega) (by omega)) (And.intro i4 (br_t ?_ (And.intro i3 (nm_r en (nm_r (nI_1 j) hJ))))))))
          rw [en, ef1, nI_clamp (by omega), hA _ a0, fa0]
        | succ f ihf =>
          intro t ht
          have i3 : vp_in (3 * nI (zg_an key G (q + 1)) + nI t) 3603 := pk_in _ 3603 (by omega) (zy_i3 _ t)
          have ec3 : (3 * nI (zg_an key G (q + 1)) + nI t).toNatClampNeg = 3 * zg_an key G (q + 1) + t := by rw [zy_i3, nI_clamp (by omega)]
          have hNt := hN hM _ t (by omega) a1 (by omega)
          refine And.intro i3 ?_
          by_cases hR : zc_R o g L (zb_at l (zg_an key G (q + 1))) t
          · obtain ⟨m, m1, m2, m3⟩ := hNt.2 hR
            have en : a_next (3 * nI (zg_an key G (q + 1)) + nI t).toNatClampNeg = nI m := by rw [ec3]; exact m2
            have hlow := zg_low hF hB hSn hG hS hf (by omega) hq (t := t) (m := m) (by omega) ⟨a1, by omega, m1, hR, m3.symm⟩
            have fm := hF.1 m m1
            refine br_f (by rw [en]; exact nI_pos (by omega)) (And.intro i3 (And.intro (by rw [en]; exact vp_in_nI (by omega) (by omega)) (And.intro i4 (br_f ?_ (nm_r (nI_1 t) (ihf (t + 1) (by omega)))))))
            rw [en, ef1, nI_clamp (by omega), hA _ m1]
            exact fun h => hlow (zr_nI h (by omega) (by omega))
          · have en : a_next (3 * nI (zg_an key G (q + 1)) + nI t).toNatClampNeg = -1 := by rw [ec3]; exact hNt.1 hR
            exact br_t (by rw [en]; decide) (nm_r (nI_1 t) (ihf (t + 1) (by omega)))
      exact ⟨_, inner (key (zg_an key G q) % 3) 0 (by omega)⟩
  have := outer (kk + 1) 0 0 (by omega) (fun h => by omega)
  rw [Nat.sub_zero, zg_an_0 hB hG] at this
  exact ⟨_, this⟩
end
section
variable {l : List (Nat → Nat)} {f_steps f_foundCount : Int32} {a_ops a_args a_codeLength a_cell a_cameFrom a_cameBy a_distance a_slots a_isEnding a_walkLeft a_walkAsleep : Nat → Int32} {a_trail a_found a_walkState : Nat → Int64}
theorem zx_stepL {post : Int32 → SX → Prop} {E : Nat → Nat → Nat → Prop} {key dd : Nat → Nat} {G kk : Nat} (hM : l.length ≤ 1200) (hB : zg_B l.length E key dd) (hG : G < l.length)
    (hD : ∀ j, j < l.length → a_cameFrom j = nI (key j / 3) ∧ a_cameBy j = nI (key j % 3)) (hb : dd G ≤ 30) (hkk : kk < dd G)
    (hp : post (nI (key (zg_an key G (dd G - 1 - kk)) % 3)) (f_steps, f_foundCount, a_ops, a_args, a_codeLength, a_trail, a_cell, a_found, a_cameFrom, a_cameBy, a_distance, a_slots, a_isEnding, a_walkState, a_walkLeft, a_walkAsleep)) : ∃ n, wX_step_35 post (nI kk) f_steps f_foundCount a_ops a_args a_codeLength a_trail a_cell a_found a_cameFrom a_cameBy a_distance a_slots a_isEnding a_walkState a_walkLeft a_walkAsleep n (nI G) (nI (dd G - 1)) := by
  have main : ∀ e q, q + e + kk + 1 = dd G → wX_step_35 post (nI kk) f_steps f_foundCount a_ops a_args a_codeLength a_trail a_cell a_found a_cameFrom a_cameBy a_distance a_slots a_isEnding a_walkState a_walkLeft a_walkAsleep (e + 1) (nI (zg_an key G q)) (nI (dd G - 1 - q)) := by
    intro e
    induction e with
    | zero =>
      intro q hq
      have a := (zg_an_d hB hG q (by omega)).1
      have e1 : dd G - 1 - q = kk := by omega
      have e2 : q = dd G - 1 - kk := by omega
      refine pk_le (dd G - 1 - q) kk (fun _ => And.intro (vp_in_nI (by omega) (by omega)) ?_) (fun h => by omega) rfl rfl (by omega) (by omega)
      rw [nI_clamp (by omega), (hD _ a).2, e2]
      exact hp
    | succ e ih =>
      intro q hq
      have a := (zg_an_d hB hG q (by omega)).1
      refine pk_le (dd G - 1 - q) kk (fun h => by omega) (fun _ => And.intro (vp_in_nI (by omega) (by omega)) (nm_r (e' := nI (zg_an key G (q + 1))) ?_ (nm_r (e' := nI (dd G - 1 - (q + 1))) ?_ (ih (q + 1) (by omega))))) rfl rfl (by omega) (by omega)
      · rw [nI_clamp (by omega), (hD _ a).1]; rfl
      · have e1 : dd G - 1 - q = dd G - 1 - (q + 1) + 1 := by omega
        rw [e1, pk_m1]
  have := main (dd G - 1 - kk) 0 (by omega)
  exact ⟨_, this⟩
end
theorem zs_30 {o g L c0 : Nat → Nat} {key dd : Nat → Nat} {G w : Nat} (hK : zc_K o g L) (hV : zc_V o L c0) (hB : zg_B (zb_F o g L c0).length (zb_E o g L (zb_F o g L c0)) key dd) (hG : G < (zb_F o g L c0).length)
    (hS : zs_T o g L (zb_F o g L c0) w G) : dd G ≤ 30 := by
  have h1 := zg_an_R hB hG hS (dd G) (Nat.le_refl _)
  rw [zg_an_0 hB hG] at h1
  have := zb_R30 hK (zb_V hK hV 3600) _ 0 (zb_len 3600).1 h1
  omega
theorem i_vc_soonest {k : Nat} {u : SX} {v : SY} (I : i_Rel k u v) (hk : k + 5 ≤ 2560) (v1 : Int32) : wpX_soonest (fun r u' => wpY_soonest (fun r' v' => r' = r ∧ i_Rel (k + 5) u' v') v v1) u v1 := by
  obtain ⟨f_steps, f_foundCount, a_ops, a_args, a_codeLength, a_trail, a_cell, a_found, a_cameFrom, a_cameBy, a_distance, a_slots, a_isEnding, a_walkState, a_walkLeft, a_walkAsleep⟩ := u
  obtain ⟨f_steps1, f_count1, f_known1, f_different1, a_ops1, a_args1, a_length1, a_path1, a_list1, a_next1, a_table1, a_far1, a_found1, a_who1, a_what1, a_before1, a_tried1⟩ := v
  obtain ⟨o, g, L, n, h, hX, hY, e1, e2, hn, hh, hkn⟩ := I
  have I' : zr_P f_steps a_ops a_args a_codeLength a_trail f_steps1 f_count1 f_known1 a_ops1 a_args1 a_length1 a_path1 a_list1 a_next1 := ⟨o, g, L, n, h, hX, hY, e1, e2, hn, hh, hkn⟩
  subst e1 e2
  obtain ⟨hx, hy, hV, hps⟩ := hh n (Nat.le_refl _)
  by_cases hw : ∃ w, w ≤ 3 ∧ v1 = nI w
  · obtain ⟨w, hw, rfl⟩ := hw
    have rel : ∀ (count : Int32) (list : Nat → Int64) (next : Nat → Int32), zy_S o g L (h n) count list next → zr_P (nI n) a_ops a_args a_codeLength a_trail (nI n) count 1 a_ops1 a_args1 a_length1 a_path1 list next :=
      fun count list next hS => ⟨o, g, L, n, h, hX, hY, rfl, rfl, hn, hh, Or.inr ⟨rfl, hS⟩⟩
    have hF1 : 1 ≤ (zb_F o g L (h n)).length := (zb_len 3600).1
    refine zx_soonest hX hV hn hx hw (fun hm cell found cf cb ds sl => ?_) (fun hm hno cell found cf cb ds sl _ _ K => ?_) (fun hm G hG hs hf cell found cf cb ds sl key dd hfo hB hD => ?_)
    · exact zy_soonest hY hV hn hy hkn hw (fun _ count list next table hS => ⟨rfl, rel _ _ _ hS⟩) (fun hm' => by omega)
    · obtain ⟨_, key, dd, hB, _⟩ := K
      refine zy_soonest hY hV hn hy hkn hw (fun hm' => by omega) (fun _ count list next table af far hS hF hA => ⟨fun _ => ⟨rfl, rel _ _ _ hS⟩, fun hne => absurd ?_ hne⟩)
      exact zg_never hF hB (fun k hk => hk.1) hF1 fun k hk => hno k hk.1 hk.2
    · have hT : zs_T o g L (zb_F o g L (h n)) w G := ⟨hG, hs⟩
      have h30 := zs_30 hX.1 hV hB hG hT
      refine zy_soonest hY hV hn hy hkn hw (fun hm' => by omega) (fun _ count list next table af far hS hF hA => ?_)
      have e := zg_soon hF hB (fun k hk => hk.1) hG hT (fun s hs' => Classical.byContradiction fun hlt => hf s (by omega) hs'.2) (by omega)
      exact ⟨fun he => by omega, fun _ => ⟨by rw [e], rel _ _ _ hS⟩⟩
  · have yno : wpY_soonest (fun r' v' => r' = -1 ∧ i_Rel (k + 5) (nI n, f_foundCount, a_ops, a_args, a_codeLength, a_trail, a_cell, a_found, a_cameFrom, a_cameBy, a_distance, a_slots, a_isEnding, a_walkState, a_walkLeft, a_walkAsleep) v') (nI n, f_count1, f_known1, f_different1, a_ops1, a_args1, a_length1, a_path1, a_list1, a_next1, a_table1, a_far1, a_found1, a_who1, a_what1, a_before1, a_tried1) v1 := by
      unfold wpY_soonest
      exact zy_within (a := 0) (b := 3) rfl rfl (by omega) (by omega) (fun t _ ht e => absurd ⟨t, ht, e⟩ hw) (fun _ => br_t rfl ⟨rfl, I'⟩)
    refine br_c (fun _ => yno) (fun h0 => br_c (fun hle => ?_) (fun _ => yno))
    obtain ⟨w, hw2, rfl⟩ := nI_of h0
    exact absurd ⟨w, (nI_leI hw2 (b := 3) (by omega)).mp hle, rfl⟩ hw
theorem i_vc_step {k : Nat} {u : SX} {v : SY} (I : i_Rel k u v) (hk : k + 5 ≤ 2560) (v1 : Int32) (v2 : Int32) : wpX_step (fun r u' => wpY_step (fun r' v' => r' = r ∧ i_Rel (k + 5) u' v') v v1 v2) u v1 v2 := by
  obtain ⟨f_steps, f_foundCount, a_ops, a_args, a_codeLength, a_trail, a_cell, a_found, a_cameFrom, a_cameBy, a_distance, a_slots, a_isEnding, a_walkState, a_walkLeft, a_walkAsleep⟩ := u
  obtain ⟨f_steps1, f_count1, f_known1, f_different1, a_ops1, a_args1, a_length1, a_path1, a_list1, a_next1, a_table1, a_far1, a_found1, a_who1, a_what1, a_before1, a_tried1⟩ := v
  obtain ⟨o, g, L, n, h, hX, hY, e1, e2, hn, hh, hkn⟩ := I
  have I' : zr_P f_steps a_ops a_args a_codeLength a_trail f_steps1 f_count1 f_known1 a_ops1 a_args1 a_length1 a_path1 a_list1 a_next1 := ⟨o, g, L, n, h, hX, hY, e1, e2, hn, hh, hkn⟩
  subst e1 e2
  obtain ⟨hx, hy, hV, hps⟩ := hh n (Nat.le_refl _)
  have ng : ∀ {A B : Prop} (x : Int32), x < 0 → B → ((0 ≤ x → A) ∧ (¬ 0 ≤ x → B)) := fun x hx b => br_f (fun h => by
    rw [Int32.le_iff_toInt_le] at h
    rw [Int32.lt_iff_toInt_lt] at hx
    omega) b
  by_cases hw : ∃ w, w ≤ 3 ∧ v1 = nI w
  · obtain ⟨w, hw, rfl⟩ := hw
    have rel : ∀ (count : Int32) (list : Nat → Int64) (next : Nat → Int32), zy_S o g L (h n) count list next → zr_P (nI n) a_ops a_args a_codeLength a_trail (nI n) count 1 a_ops1 a_args1 a_length1 a_path1 list next :=
      fun count list next hS => ⟨o, g, L, n, h, hX, hY, rfl, rfl, hn, hh, Or.inr ⟨rfl, hS⟩⟩
    have hF1 : 1 ≤ (zb_F o g L (h n)).length := (zb_len 3600).1
    have hFd : (zb_F o g L (h n)).Nodup := zb_nodup 3600
    have hFl := zr_Fl o g L (h n)
    have hFV : ∀ x, x ∈ zb_F o g L (h n) → zc_V o L x := zb_V hX.1 hV 3600
    unfold wpX_step
    refine zx_soonest hX hV hn hx hw (fun hm cell found cf cb ds sl => ng _ (by decide) ?_) (fun hm hno cell found cf cb ds sl _ _ K => ng _ (by decide) ?_) (fun hm G hG hs hf cell found cf cb ds sl key dd hfo hB hD => ?_)
    · show wpY_step _ _ _ _
      unfold wpY_step
      exact zy_soonest hY hV hn hy hkn hw (fun _ count list next table hS => ng _ (by decide) ⟨rfl, rel _ _ _ hS⟩) (fun hm' => by omega)
    · show wpY_step _ _ _ _
      unfold wpY_step
      obtain ⟨_, key, dd, hB, _⟩ := K
      refine zy_soonest hY hV hn hy hkn hw (fun hm' => by omega) (fun _ count list next table af far hS hF hA => ⟨fun _ => ng _ (by decide) ⟨rfl, rel _ _ _ hS⟩, fun hne => absurd ?_ hne⟩)
      exact zg_never hF hB (fun k hk => hk.1) hF1 fun k hk => hno k hk.1 hk.2
    · have hT : zs_T o g L (zb_F o g L (h n)) w G := ⟨hG, hs⟩
      have h30 := zs_30 hX.1 hV hB hG hT
      have hfirst : ∀ s, zs_T o g L (zb_F o g L (h n)) w s → G ≤ s := fun s hs' => Classical.byContradiction fun hlt => hf s (by omega) hs'.2
      -- the reference, once it knows the length
      have yl : ∀ (P : Int32 → SY → Prop), (∀ (count : Int32) (list : Nat → Int64) (next table af : Nat → Int32) (far : Nat → Nat), zy_S o g L (h n) count list next →
          zg_F (zb_F o g L (h n)).length (zb_E o g L (zb_F o g L (h n))) (zs_T o g L (zb_F o g L (h n)) w) far → zs_A (zb_F o g L (h n)).length af far →
          ((v2 < 0 → P (-1) (nI n, count, 1, f_different1, a_ops1, a_args1, a_length1, a_path1, list, next, table, af, a_found1, a_who1, a_what1, a_before1, a_tried1)) ∧ (¬ v2 < 0 → ((v2 < nI (dd G) → ∃ n32, wY_step_32 P v2 (nI n) count 1 f_different1 a_ops1 a_args1 a_length1 a_path1 list next table af a_found1 a_who1 a_what1 a_before1 a_tried1 n32 0 0 0) ∧ (¬ v2 < nI (dd G) → P (-1) (nI n, count, 1, f_different1, a_ops1, a_args1, a_length1, a_path1, list, next, table, af, a_found1, a_who1, a_what1, a_before1, a_tried1))))) ) →
          wpY_step P (nI n, f_count1, f_known1, f_different1, a_ops1, a_args1, a_length1, a_path1, a_list1, a_next1, a_table1, a_far1, a_found1, a_who1, a_what1, a_before1, a_tried1) (nI w) v2 := by
        intro P hP
        unfold wpY_step
        refine zy_soonest hY hV hn hy hkn hw (fun hm' => by omega) (fun _ count list next table af far hS hF hA => ?_)
        have e := zg_soon hF hB (fun k hk => hk.1) hG hT hfirst (by omega)
        refine ⟨fun he => by omega, fun _ => br_t (nI_pos' (by omega)) ?_⟩
        rw [e]
        exact hP count list next table af far hS hF hA
      refine br_t (nI_pos' (by omega)) (br_c (fun hneg => ?_) (fun h0 => ?_))
      · exact yl _ fun count list next table af far hS hF hA => br_t hneg ⟨rfl, rel _ _ _ hS⟩
      obtain ⟨kk, hkk, rfl⟩ := nI_of h0
      refine pk_lt kk (dd G) (fun hlt => ?_) (fun hge => ?_) rfl rfl (by omega) (by omega)
      rotate_left
      · exact yl _ fun count list next table af far hS hF hA => br_f h0 (pk_lt kk (dd G) (fun hlt => by omega) (fun _ => ⟨rfl, rel _ _ _ hS⟩) rfl rfl (by omega) (by omega))
      refine zx_nearest hX hFV hFl hfo hw (fun G' hG' hs' hf' cell' => nm_r (e' := nI (dd G - 1)) (pk_sub (b := 1) (by omega)) ?_) (fun hno => absurd hs (hno G hG))
      have eG : G' = G := by
        rcases Nat.lt_trichotomy G' G with c | c | c
        · exact absurd hs' (hf G' c)
        · exact c
        · exact absurd hs (hf' G c)
      subst eG
      refine zx_stepL hm hB hG (fun j hj => ⟨(hD j hj).1, (hD j hj).2.1⟩) h30 hlt ?_
      refine yl _ fun count list next table af far hS hF hA => br_f h0 (pk_lt kk (dd G') (fun _ => ?_) (fun hge => by omega) rfl rfl (by omega) (by omega))
      exact zy_stepL hm hFd hS.2.2 hB hF hA (fun k hk => hk.1) hG hT hfirst h30 hlt ⟨rfl, rel _ _ _ hS⟩
  · have yno : wpY_step (fun r' v' => r' = -1 ∧ i_Rel (k + 5) (nI n, f_foundCount, a_ops, a_args, a_codeLength, a_trail, a_cell, a_found, a_cameFrom, a_cameBy, a_distance, a_slots, a_isEnding, a_walkState, a_walkLeft, a_walkAsleep) v') (nI n, f_count1, f_known1, f_different1, a_ops1, a_args1, a_length1, a_path1, a_list1, a_next1, a_table1, a_far1, a_found1, a_who1, a_what1, a_before1, a_tried1) v1 v2 := by
      unfold wpY_step wpY_soonest
      exact zy_within (a := 0) (b := 3) rfl rfl (by omega) (by omega) (fun t _ ht e => absurd ⟨t, ht, e⟩ hw) (fun _ => br_t rfl (ng _ (by decide) ⟨rfl, I'⟩))
    refine br_c (fun _ => ng _ (by decide) yno) (fun h0 => br_c (fun hle => ?_) (fun _ => ng _ (by decide) yno))
    obtain ⟨w, hw2, rfl⟩ := nI_of h0
    exact absurd ⟨w, (nI_leI hw2 (b := 3) (by omega)).mp hle, rfl⟩ hw
