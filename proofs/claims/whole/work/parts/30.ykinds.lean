/-! the walk of the reference: what belongs earlier, one turn -/
section
variable (o g L c : Nat → Nat)
def zk_XS (w : List Nat) (tr : Nat) (ws : Nat → Int64) (wl wa : Nat → Int32) : Prop :=
  (∀ p t q, w = p ++ t :: q → zk_lx o g L c p (t + 1) (ws p.length) (wl p.length) (wa p.length)) ∧ zk_lx o g L c w tr (ws w.length) (wl w.length) (wa w.length)
def zk_YS (w : List Nat) (tr : Nat) (who what trd : Nat → Int32) (bf : Nat → Int64) : Prop :=
  (∀ p t q, w = p ++ t :: q → bf p.length = lN (zp_Y (zt_run o g L c p)) ∧ trd p.length = nI (t + 1) ∧ who p.length = nI t ∧ what p.length = nI (zc_pc (zt_run o g L c p) t)) ∧
  bf w.length = lN (zp_Y (zt_run o g L c w)) ∧ trd w.length = nI tr
end
section
variable {o g L c : Nat → Nat} {w : List Nat} {tr t : Nat}
theorem zk_XS_pop {ws : Nat → Int64} {wl wa : Nat → Int32} (h : zk_XS o g L c (w ++ [t]) tr ws wl wa) : zk_XS o g L c w (t + 1) ws wl wa :=
  ⟨fun p s q e => h.1 p s (q ++ [t]) (by rw [e]; simp), h.1 w t [] rfl⟩
theorem zk_YS_pop {who what trd : Nat → Int32} {bf : Nat → Int64} (h : zk_YS o g L c (w ++ [t]) tr who what trd bf) {x : Int32} : zk_YS o g L c w (t + 1) who what (upd trd (w ++ [t]).length x) bf := by
  have hl : (w ++ [t]).length = w.length + 1 := by simp
  refine ⟨fun p s q e => ?_, (h.1 w t [] rfl).1, ?_⟩
  · have := h.1 p s (q ++ [t]) (by rw [e]; simp)
    have hp : p.length < w.length := by rw [e]; simp
    rw [pk_un (by omega)]
    exact this
  · rw [pk_un (by omega)]; exact (h.1 w t [] rfl).2.1
theorem zk_len_lt {p q : List Nat} {s : Nat} (e : w = p ++ s :: q) : p.length < w.length := by rw [e]; simp
theorem zk_XS_push {ws : Nat → Int64} {wl wa : Nat → Int32} {s' : Int64} {lf as lf' as' : Int32} (h : zk_XS o g L c w tr ws wl wa)
    (h1 : zk_lx o g L c w (t + 1) (ws w.length) lf as) (h2 : zk_lx o g L c (w ++ [t]) 0 s' lf' as') :
    zk_XS o g L c (w ++ [t]) 0 (vp_updL ws (w.length + 1) s') (upd (upd wl w.length lf) (w.length + 1) lf') (upd (upd wa w.length as) (w.length + 1) as') := by
  have hl : (w ++ [t]).length = w.length + 1 := by simp
  refine ⟨fun p s q e => ?_, ?_⟩
  · rcases zk_snoc e with ⟨e1, e2, _⟩ | ⟨q', e1⟩
    · subst e1 e2
      rw [pk_uLn (by omega), pk_un (by omega), pk_us, pk_un (by omega), pk_us]
      exact h1
    · have := zk_len_lt e1
      rw [pk_uLn (by omega), pk_un (by omega), pk_un (by omega), pk_un (by omega), pk_un (by omega)]
      exact h.1 p s q' e1
  · rw [hl, pk_uLs, pk_us, pk_us]; exact h2
theorem zk_YS_skip {who what trd : Nat → Int32} {bf : Nat → Int64} (h : zk_YS o g L c w tr who what trd bf) : zk_YS o g L c w (tr + 1) who what (upd trd w.length (nI (tr + 1))) bf := by
  refine ⟨fun p s q e => ?_, h.2.1, pk_us⟩
  have := zk_len_lt e
  rw [pk_un (by omega)]
  exact h.1 p s q e
theorem zk_YS_push {who what trd : Nat → Int32} {bf : Nat → Int64} (h : zk_YS o g L c w t who what trd bf) :
    zk_YS o g L c (w ++ [t]) 0 (upd who w.length (nI t)) (upd what w.length (nI (zc_pc (zt_run o g L c w) t))) (upd (upd trd w.length (nI (t + 1))) (w.length + 1) 0)
      (vp_updL bf (w.length + 1) (lN (zp_Y (zc_step o g L (zt_run o g L c w) t)))) := by
  have hl : (w ++ [t]).length = w.length + 1 := by simp
  refine ⟨fun p s q e => ?_, ?_, ?_⟩
  · rcases zk_snoc e with ⟨e1, e2, _⟩ | ⟨q', e1⟩
    · subst e1 e2
      rw [pk_uLn (by omega), pk_un (by omega), pk_us, pk_us, pk_us]
      exact ⟨h.2.1, rfl, rfl, rfl⟩
    · have := zk_len_lt e1
      rw [pk_uLn (by omega), pk_un (by omega), pk_un (by omega), pk_un (by omega), pk_un (by omega)]
      exact h.1 p s q' e1
  · rw [hl, pk_uLs, zk_run_s]
  · rw [hl, pk_us]; rfl
theorem zk_lastOf {n : Nat} {p : List Nat} (h : p.length = n + 1) : ∃ p' s, p = p' ++ [s] ∧ p'.length = n := by
  rcases List.eq_nil_or_concat p with e | ⟨p', s, e⟩
  · rw [e] at h; simp at h
  · rw [List.concat_eq_append] at e
    refine ⟨p', s, e, ?_⟩
    rw [e] at h
    simp at h
    exact h
end
section
variable {o g L c : Nat → Nat} {w : List Nat} {tr : Nat} {f_steps f_count f_known f_different : Int32} {a_ops a_args a_length a_next a_table a_far a_found a_who a_what a_tried : Nat → Int32} {a_path a_list a_before : Nat → Int64}
theorem zy_bel {post : Int32 → Prop} {t k : Nat} (hC : zx_C o g L a_ops a_args a_length) (hV : zc_V o L c) (hok : zt_ok o g L c w) (hS : zk_YS o g L c w tr a_who a_what a_tried a_before) (hlen : w.length ≤ 30) (ht : t < 3)
    (hk : k < 15) (ok : o k ≤ 11) (gk : g k < 8)
    (h1 : zt_bel o g (zk_acc o g L c w) t k → post 1) (h0 : ¬ zt_bel o g (zk_acc o g L c w) t k → post 0) : wpY_belongsEarlier post (f_steps, f_count, f_known, f_different, a_ops, a_args, a_length, a_path, a_list, a_next, a_table, a_far, a_found, a_who, a_what, a_before, a_tried) (nI t) (nI k) (nI w.length) := by
  have key : ∀ n p q, p.length = n → w = p ++ q → (zt_bel o g (zk_acc o g L c p) t k → post 1) → (¬ zt_bel o g (zk_acc o g L c p) t k → post 0) →
      wY_belongsEarlier_5 post (nI t) (nI k) f_steps f_count f_known f_different a_ops a_args a_length a_path a_list a_next a_table a_far a_found a_who a_what a_before a_tried (n + 1) (nI n + (-1)) := by
    intro n
    induction n with
    | zero =>
      intro p q hp e a1 a0
      have ep : p = [] := List.length_eq_zero_iff.mp hp
      subst ep
      exact br_t (by decide) (a0 fun h => h)
    | succ n ih =>
      intro p q hp e a1 a0
      obtain ⟨p', s, ep, hp'⟩ := zk_lastOf hp
      subst ep
      have ew : w = p' ++ s :: q := by rw [e]; simp
      have hokp := (zt_ok_app p' (s :: q) c).mp (by rw [← ew]; exact hok)
      have hs3 := hokp.2.1
      have hRs := hokp.2.2.1
      have hVp := zt_V_run hC.1 p' c hV hokp.1
      have hGs := zc_R_G hC.1 hs3 hRs
      have hLs := (hC.1 s hs3).1
      have hks : zc_pc (zt_run o g L c p') s < 15 := by
        have := hRs.1
        unfold zc_pc; omega
      obtain ⟨_, _, y3, y4⟩ := hS.1 p' s q ew
      rw [hp'] at y3 y4
      have hn32 : n < 32 := by
        have := zk_len_lt ew
        omega
      have ecn : (nI n).toNatClampNeg = n := nI_clamp (by omega)
      have i32 : vp_in (nI n) 32 := vp_in_nI (by omega) (by omega)
      have ewho : a_who (nI n).toNatClampNeg = nI s := by rw [ecn]; exact y3
      have ewhat : a_what (nI n).toNatClampNeg = nI (zc_pc (zt_run o g L c p') s) := by rw [ecn]; exact y4
      rw [zk_acc_s] at a1 a0
      rw [pk_m1]
      refine br_f (nI_pos (by omega)) (And.intro i32 (pk_eq s t (fun e1 => a0 fun h => h.1.1 e1) (fun e1 => And.intro i32 ?_) ewho rfl (by omega) (by omega)))
      rw [ewhat]
      refine zy_touch hC hks hk hGs.1 ok hGs.2.1 gk (fun hT => br_f (by decide) (a0 fun h => h.1.2 hT)) (fun hT => br_t rfl (And.intro i32 ?_))
      refine pk_le s t (fun hle => nm_e (ih p' (s :: q) hp' ew (fun h => a1 ⟨⟨e1, hT⟩, Or.inr h⟩) (fun h => a0 fun h2 => ?_))) (fun hlt => a1 ⟨⟨e1, hT⟩, Or.inl hlt⟩) ewho rfl (by omega) (by omega)
      rcases h2.2 with h3 | h3
      · have h4 : t < s := h3
        omega
      · exact h h3
  refine nm_r (e' := nI w.length + (-1)) ?_ ⟨_, key w.length w [] rfl (by simp) h1 h0⟩
  exact Int32.sub_eq_add_neg _ _
theorem zy_k73 {post : Int32 → SY → Prop} {J : Int32 → Int32 → (Nat → Int32) → (Nat → Int32) → (Nat → Int32) → (Nat → Int64) → (Nat → Int64) → (Nat → Int32) → (Nat → Int32) → (Nat → Int32) → (Nat → Int32) → (Nat → Int32) → (Nat → Int32) → (Nat → Int64) → (Nat → Int32) → Prop}
    {x1 : Int32} {x : Int32} {tr' : Nat} (hC : zx_C o g L a_ops a_args a_length) (hV : zc_V o L c) (hok : zt_ok o g L c w) (hS : zk_YS o g L c w tr' a_who a_what a_tried a_before) (hlen : w.length ≤ 30) (htr : tr < 3)
    (h0 : ¬ zk_via o g L c w tr → J x1 (nI w.length) a_ops a_args a_length a_path a_list a_next a_table a_far a_found a_who a_what a_before a_tried)
    (h1 : zk_via o g L c w tr → J x1 (nI (w.length + 1)) a_ops a_args a_length a_path a_list a_next a_table a_far a_found (upd a_who w.length (nI tr)) (upd a_what w.length (nI (zc_pc (zt_run o g L c w) tr))) (vp_updL a_before (w.length + 1) (lN (zp_Y (zc_step o g L (zt_run o g L c w) tr)))) (upd a_tried (w.length + 1) 0)) :
    wY_kinds_73 post J x1 (nI w.length) (lN (zp_Y (zt_run o g L c w))) (nI tr) f_steps f_count f_known f_different a_ops a_args a_length a_path a_list a_next a_table a_far a_found a_who a_what a_before a_tried := by
  have hVw := zt_V_run hC.1 w c hV hok
  have hc := zp_bY (zx_L5 hC) hVw
  refine pk_le tr 2 (fun _ => ?_) (fun h => by omega) rfl rfl (by omega) (by omega)
  refine zy_isReady hC hVw htr (fun hR => br_f (by decide) ?_) (fun hR => br_t rfl (h0 fun h => hR h.1))
  have hG := zc_R_G hC.1 htr hR
  have hL := (hC.1 tr htr).1
  have hk : zc_pc (zt_run o g L c w) tr < 15 := by
    have := hR.1
    unfold zc_pc; omega
  refine zy_place hc htr (nm_r (e' := nI (zc_pc (zt_run o g L c w) tr)) (zy_pc tr _) ?_)
  refine zy_bel hC hV hok hS hlen htr hk hG.1 hG.2.1 (fun hb => br_f (by decide) (h0 fun h => h.2 hb)) (fun hb => br_t rfl ?_)
  have ec : (nI w.length).toNatClampNeg = w.length := nI_clamp (by omega)
  have ec1 : (nI (w.length + 1)).toNatClampNeg = w.length + 1 := nI_clamp (by omega)
  have i32 : vp_in (nI w.length) 32 := vp_in_nI (by omega) (by omega)
  have i33 : vp_in (nI (w.length + 1)) 33 := vp_in_nI (by omega) (by omega)
  refine And.intro i32 (nm_e (And.intro i32 (nm_e (nm_r (nI_1 _) ?_))))
  refine zy_after hC hVw htr hR (And.intro i33 (nm_e (And.intro i33 (nm_e ?_))))
  rw [ec, ec1]
  exact h1 ⟨hR, hb⟩
/-- one turn of the reference's walk -/
theorem zy_turn {post : Int32 → SY → Prop} {n : Nat} (hC : zx_C o g L a_ops a_args a_length) (hV : zc_V o L c) (hok : zt_ok o g L c w) (hS : zk_YS o g L c w tr a_who a_what a_tried a_before) (hlen : w.length ≤ 30) (htr : tr ≤ 3) (hn : n ≤ 2000)
    {m : Nat}
    (h0 : tr < 3 → ¬ zk_via o g L c w tr → ¬ (tr = 0 ∧ zt_end o g L (zt_run o g L c w)) → wY_kinds_26 post f_steps f_count f_known f_different m (nI n) (nI w.length) a_ops a_args a_length a_path a_list a_next a_table a_far a_found a_who a_what a_before (upd a_tried w.length (nI (tr + 1))))
    (h0' : tr = 0 → zt_end o g L (zt_run o g L c w) → wY_kinds_26 post f_steps f_count f_known f_different m (nI (n + 1)) (nI w.length) a_ops a_args a_length a_path a_list a_next a_table a_far a_found a_who a_what a_before (upd a_tried w.length (nI (tr + 1))))
    (h1 : tr < 3 → zk_via o g L c w tr → wY_kinds_26 post f_steps f_count f_known f_different m (nI n) (nI (w.length + 1)) a_ops a_args a_length a_path a_list a_next a_table a_far a_found (upd a_who w.length (nI tr)) (upd a_what w.length (nI (zc_pc (zt_run o g L c w) tr))) (vp_updL a_before (w.length + 1) (lN (zp_Y (zc_step o g L (zt_run o g L c w) tr)))) (upd (upd a_tried w.length (nI (tr + 1))) (w.length + 1) 0))
    (h3 : tr = 3 → wY_kinds_26 post f_steps f_count f_known f_different m (nI n) (nI w.length + (-1)) a_ops a_args a_length a_path a_list a_next a_table a_far a_found a_who a_what a_before (upd a_tried w.length (nI (tr + 1)))) :
    wY_kinds_26 post f_steps f_count f_known f_different (m + 1) (nI n) (nI w.length) a_ops a_args a_length a_path a_list a_next a_table a_far a_found a_who a_what a_before a_tried := by
  have hVw := zt_V_run hC.1 w c hV hok
  have ec : (nI w.length).toNatClampNeg = w.length := nI_clamp (by omega)
  have i33 : vp_in (nI w.length) 33 := vp_in_nI (by omega) (by omega)
  have eb : a_before (nI w.length).toNatClampNeg = lN (zp_Y (zt_run o g L c w)) := by rw [ec]; exact hS.2.1
  have et : a_tried (nI w.length).toNatClampNeg = nI tr := by rw [ec]; exact hS.2.2
  refine br_f (nI_pos (by omega)) (pk_lt 2000 n (fun h => by omega) (fun _ => And.intro i33 (nm_r eb (And.intro i33 (And.intro i33 (nm_r (e' := upd a_tried w.length (nI (tr + 1))) (by rw [et, ec, nI_1]) (nm_r et ?_)))))) rfl rfl (by omega) (by omega))
  have hS' := zk_YS_skip hS
  by_cases e3 : tr = 3
  · subst e3
    refine pk_eq 3 0 (fun h => by omega) (fun _ => ?_) rfl rfl (by omega) (by omega)
    exact pk_le 3 2 (fun h => by omega) (fun _ => nm_e (h3 rfl)) rfl rfl (by omega) (by omega)
  · have ht3 : tr < 3 := by omega
    refine pk_eq tr 0 (fun e0 => ?_) (fun e0 => ?_) rfl rfl (by omega) (by omega)
    · refine zy_isEnd hC hVw (fun he => br_f (by decide) (nm_r (nI_1 n) ?_)) (fun he => br_t rfl ?_)
      · refine zy_k73 (x := 0) hC hV hok hS' hlen ht3 (fun hv => h0' e0 he) (fun hv => absurd hv.1 (he tr ht3))
      · refine zy_k73 (x := 0) hC hV hok hS' hlen ht3 (fun hv => h0 ht3 hv fun h => he h.2) (fun hv => h1 ht3 hv)
    · exact zy_k73 (x := 0) hC hV hok hS' hlen ht3 (fun hv => h0 ht3 hv fun h => e0 h.1) (fun hv => h1 ht3 hv)
end
