/-! the reference's gather; endings and ending, owed -/
/-- the sorted endings exist, and are one row -/
theorem ze_ins {f mk : Nat → Nat} {n v : Nat} (h : ze_S f n mk) (hv : v < 16384) : ∃ (n' : Nat) (f' : Nat → Nat), n' ≤ n + 1 ∧ ze_S f' n' (zc_up mk v 1) := by
  obtain ⟨p, hp, hmin⟩ := zh_least (fun p => n ≤ p ∨ v ≤ f p) ⟨n, Or.inl (Nat.le_refl _)⟩
  have hpn : p ≤ n := by
    refine Classical.byContradiction fun hh => ?_
    exact hmin n (by omega) (Or.inl (Nat.le_refl _))
  have h1 : ∀ j, j < p → f j < v := fun j hj => by
    have := hmin j hj
    omega
  by_cases e : p < n ∧ f p = v
  · exact ⟨n, f, by omega, ze_old h hv e.1 e.2⟩
  · refine ⟨n + 1, fun j => if j < p then f j else if j = p then v else f (j - 1), Nat.le_refl _, ze_new h hv hpn h1 (fun j hj hjn => ?_) (fun j hj => by rw [if_pos hj]) (by rw [if_neg (by omega), if_pos rfl])
      (fun j hj hjn => by rw [if_neg (by omega), if_neg (by omega), show j + 1 - 1 = j by omega])⟩
    by_cases ej : j = p
    · subst ej; omega
    · have := h.1 p j (by omega) hjn
      omega
theorem ze_ex {o g L : Nat → Nat} {l : List (Nat → Nat)} (hl : l.length ≤ 1200) (hv : ∀ i, i < l.length → ze_v L (zb_at l i) < 16384) :
    ∃ (m : Nat) (f : Nat → Nat), m ≤ 1200 ∧ ze_S f m (ze_m o g L l l.length) := by
  have key : ∀ i, i ≤ l.length → ∃ (m : Nat) (f : Nat → Nat), m ≤ i ∧ ze_S f m (ze_m o g L l i) := by
    intro i
    induction i with
    | zero => intro _; exact ⟨0, fun _ => 0, Nat.le_refl _, ze_0 fun e _ => rfl⟩
    | succ i ih =>
      intro hi
      obtain ⟨m, f, h1, h2⟩ := ih (by omega)
      by_cases he : zt_end o g L (zb_at l i)
      · obtain ⟨m', f', h3, h4⟩ := ze_ins h2 (hv i (by omega))
        exact ⟨m', f', by omega, by rw [ze_m_y he]; exact h4⟩
      · exact ⟨m, f, by omega, by rw [ze_m_n he]; exact h2⟩
  obtain ⟨m, f, h1, h2⟩ := key l.length (Nat.le_refl _)
  exact ⟨m, f, by omega, h2⟩
theorem ze_same {f f' mk : Nat → Nat} {n : Nat} (h : ze_S f n mk) (h' : ze_S f' n mk) {i : Nat} (hi : i < n) : f i = f' i := by
  obtain ⟨j, hj, e⟩ := h'.2.2 (f i) (h.2.1 i hi).1 (h.2.1 i hi).2
  have e1 := ze_nth h hi
  have e2 := ze_nth h' hj
  rw [e] at e2
  have : i = j := e1.symm.trans e2
  rw [this]
  rw [this] at e
  exact e.symm
section
variable {o g L : Nat → Nat} {l : List (Nat → Nat)} {f_steps f_count f_known f_different : Int32} {a_ops a_args a_length a_next a_table a_far a_found a_who a_what a_tried : Nat → Int32} {a_path a_list a_before : Nat → Int64}
theorem zy_ga127 {post : SY → Prop} {J7 : Int32 → Int32 → (Nat → Int32) → (Nat → Int32) → (Nat → Int32) → (Nat → Int64) → (Nat → Int64) → (Nat → Int32) → (Nat → Int32) → (Nat → Int32) → (Nat → Int32) → (Nat → Int32) → (Nat → Int32) → (Nat → Int64) → (Nat → Int32) → Prop}
    {f : Nat → Nat} {n p v i : Nat} (hn : n ≤ 1200) (hp : p ≤ n)
    (hJ : ∀ af : Nat → Int32, (∀ j, j < n + 1 → af j = nI (if j < p then f j else if j = p then v else f (j - 1))) → J7 (nI (i + 1)) (nI (n + 1)) a_ops a_args a_length a_path a_list a_next a_table a_far af a_who a_what a_before a_tried) :
    ∀ d (af : Nat → Int32), p + d ≤ n → (∀ j, j ≤ p + d → j < n → af j = nI (f j)) → (∀ j, p + d < j → j < n + 1 → af j = nI (f (j - 1))) →
      wY_gather_127 post J7 (nI i) (nI v) (nI p) f_steps f_count f_known (nI n) (d + 1) (nI (p + d)) a_ops a_args a_length a_path a_list a_next a_table a_far af a_who a_what a_before a_tried := by
  intro d
  induction d with
  | zero =>
    intro af hd h1 h2
    refine pk_le (p + 0) p (fun _ => And.intro (vp_in_nI (by omega) (by omega)) (nm_e (nm_r (nI_1 n) (nm_r (nI_1 i) (hJ _ fun j hj => ?_))))) (fun h => by omega) rfl rfl (by omega) (by omega)
    rw [nI_clamp (by omega)]
    unfold upd
    by_cases e1 : j < p
    · rw [if_neg (by omega), if_pos e1]; exact h1 j (by omega) (by omega)
    · rw [if_neg e1]
      by_cases e2 : j = p
      · rw [if_pos e2, if_pos e2]
      · rw [if_neg e2, if_neg e2]; exact h2 j (by omega) hj
  | succ d ih =>
    intro af hd h1 h2
    have es : nI (p + (d + 1)) - 1 = nI (p + d) := nI_pred (p + d)
    refine pk_le (p + (d + 1)) p (fun h => by omega) (fun _ => And.intro (pk_in (p + d) 1201 (by omega) es) (And.intro (vp_in_nI (by omega) (by omega)) (nm_e (nm_r (e' := nI (p + d)) (pk_m1 (p + d)) ?_)))) rfl rfl (by omega) (by omega)
    rw [es, nI_clamp (by omega), nI_clamp (by omega)]
    refine ih _ (by omega) (fun j hj hjn => ?_) (fun j hj hjn => ?_)
    · unfold upd; rw [if_neg (by omega)]; exact h1 j (by omega) hjn
    · unfold upd
      by_cases e : j = p + (d + 1)
      · rw [if_pos e, e, h1 (p + d) (by omega) (by omega)]
        have e3 : p + (d + 1) - 1 = p + d := by omega
        rw [e3]
      · rw [if_neg e]; exact h2 j (by omega) hjn
theorem zy_ga70 {post : SY → Prop} {J7 : Int32 → Int32 → (Nat → Int32) → (Nat → Int32) → (Nat → Int32) → (Nat → Int64) → (Nat → Int64) → (Nat → Int32) → (Nat → Int32) → (Nat → Int32) → (Nat → Int32) → (Nat → Int32) → (Nat → Int32) → (Nat → Int64) → (Nat → Int32) → Prop}
    {f mk : Nat → Nat} {n v i : Nat} (hn : n ≤ 1200) (hv : v < 16384) (hS : ze_S f n mk) (hA : ∀ j, j < n → a_found j = nI (f j))
    (hJ : ∀ (n' : Nat) (f' : Nat → Nat) (af : Nat → Int32), n' ≤ n + 1 → ze_S f' n' (zc_up mk v 1) → (∀ j, j < n' → af j = nI (f' j)) → J7 (nI (i + 1)) (nI n') a_ops a_args a_length a_path a_list a_next a_table a_far af a_who a_what a_before a_tried) :
    ∃ n70, wY_gather_70 post J7 (nI i) (nI v) f_steps f_count f_known (nI n) a_ops a_args a_length a_path a_list a_next a_table a_far a_found a_who a_what a_before a_tried n70 0 := by
  have ins : ∀ p, p ≤ n → (∀ j, j < p → f j < v) → (∀ j, p ≤ j → j < n → v < f j) → ∃ n127, wY_gather_127 post J7 (nI i) (nI v) (nI p) f_steps f_count f_known (nI n) n127 (nI n) a_ops a_args a_length a_path a_list a_next a_table a_far a_found a_who a_what a_before a_tried := by
    intro p hp h1 h2
    have := zy_ga127 (post := post) (J7 := J7) (f := f) (v := v) (i := i) (f_steps := f_steps) (f_count := f_count) (f_known := f_known) (a_ops := a_ops) (a_args := a_args) (a_length := a_length) (a_path := a_path) (a_list := a_list) (a_next := a_next) (a_table := a_table) (a_far := a_far) (a_who := a_who) (a_what := a_what) (a_before := a_before) (a_tried := a_tried) hn hp (fun af haf => hJ (n + 1) _ af (Nat.le_refl _) (ze_new hS hv hp h1 h2 (f' := fun j => if j < p then f j else if j = p then v else f (j - 1))
      (fun j hj => by rw [if_pos hj]) (by rw [if_neg (by omega), if_pos rfl])
      (fun j hj hjn => by rw [if_neg (by omega), if_neg (by omega), show j + 1 - 1 = j by omega])) haf) (n - p) a_found (by omega) (fun j _ hjn => hA j hjn) (fun j hj hjn => by omega)
    have e : p + (n - p) = n := by omega
    rw [e] at this
    exact ⟨_, this⟩
  have fin : ∀ p, p ≤ n → (∀ j, j < p → f j < v) → (p < n → v ≤ f p) → wY_gather_97 post J7 (nI i) (nI v) (nI p) f_steps f_count f_known (nI n) a_ops a_args a_length a_path a_list a_next a_table a_far a_found a_who a_what a_before a_tried := by
    intro p hp h1 h2
    refine pk_le n p (fun h => ins p hp h1 fun j hj hjn => by omega) (fun h => And.intro (vp_in_nI (by omega) (by omega)) ?_) rfl rfl (by omega) (by omega)
    have fp := (hS.2.1 p h).1
    refine pk_eq (f p) v (fun e => nm_r (nI_1 i) (hJ n f a_found (by omega) (ze_old hS hv h e) hA)) (fun e => ins p hp h1 fun j hj hjn => ?_) (by rw [nI_clamp (by omega)]; exact hA p h) rfl (by omega) (by omega)
    have := h2 h
    by_cases ej : j = p
    · rw [ej]; omega
    · have := hS.1 p j (by omega) hjn
      omega
  have key : ∀ d p, p + d = n → (∀ j, j < p → f j < v) → wY_gather_70 post J7 (nI i) (nI v) f_steps f_count f_known (nI n) a_ops a_args a_length a_path a_list a_next a_table a_far a_found a_who a_what a_before a_tried (d + 1) (nI p) := by
    intro d
    induction d with
    | zero =>
      intro p hp h1
      exact pk_le n p (fun _ => fin p (by omega) h1 fun h => by omega) (fun h => by omega) rfl rfl (by omega) (by omega)
    | succ d ih =>
      intro p hp h1
      have hpn : p < n := by omega
      have fp := (hS.2.1 p hpn).1
      refine pk_le n p (fun h => by omega) (fun _ => And.intro (vp_in_nI (by omega) (by omega)) ?_) rfl rfl (by omega) (by omega)
      refine pk_le v (f p) (fun h => fin p (by omega) h1 fun _ => h) (fun h => nm_r (nI_1 p) (ih (p + 1) (by omega) fun j hj => ?_)) rfl (by rw [nI_clamp (by omega)]; exact hA p hpn) (by omega) (by omega)
      by_cases e : j = p
      · rw [e]; exact h
      · exact h1 j (by omega)
  exact ⟨_, key n 0 (by omega) fun j hj => by omega⟩
theorem zy_gather {post : SY → Prop} (hC : zx_C o g L a_ops a_args a_length) (hV : ∀ x, x ∈ l → zc_V o L x) (hlen : l.length ≤ 1200)
    (hl : ∀ i, i < l.length → a_list i = lN (zp_Y (zb_at l i)))
    (hp : ∀ (n : Nat) (f : Nat → Nat) (af : Nat → Int32), n ≤ 1200 → ze_S f n (ze_m o g L l l.length) → (∀ j, j < n → af j = nI (f j)) → post (f_steps, nI l.length, f_known, nI n, a_ops, a_args, a_length, a_path, a_list, a_next, a_table, a_far, af, a_who, a_what, a_before, a_tried)) :
    wpY_gather post (f_steps, nI l.length, f_known, f_different, a_ops, a_args, a_length, a_path, a_list, a_next, a_table, a_far, a_found, a_who, a_what, a_before, a_tried) := by
  have key : ∀ d i (n : Nat) (f : Nat → Nat) (af : Nat → Int32), i + d = l.length → n ≤ i → ze_S f n (ze_m o g L l i) → (∀ j, j < n → af j = nI (f j)) →
      wY_gather_7 post f_steps (nI l.length) f_known (d + 1) (nI i) (nI n) a_ops a_args a_length a_path a_list a_next a_table a_far af a_who a_what a_before a_tried := by
    intro d
    induction d with
    | zero =>
      intro i n f af hi hn hS hA
      have e : i = l.length := by omega
      subst e
      exact pk_le l.length l.length (fun _ => hp n f af (by omega) hS hA) (fun h => by omega) rfl rfl (by omega) (by omega)
    | succ d ih =>
      intro i n f af hi hn hS hA
      have hil : i < l.length := by omega
      have hVi := hV _ (zb_at_mem hil)
      have hB := zp_bX (zx_L5 hC) hVi
      have hc := zp_bY (zx_L5 hC) hVi
      have hv := ze_v_lt (L := L) hB
      have ef : a_list (nI i).toNatClampNeg = lN (zp_Y (zb_at l i)) := by rw [nI_clamp (by omega)]; exact hl i hil
      refine pk_le l.length i (fun h => by omega) (fun _ => And.intro (vp_in_nI (by omega) (by omega)) (nm_r ef ?_)) rfl rfl (by omega) (by omega)
      refine zy_isEnd hC hVi (fun he => br_f (by decide) ?_) (fun he => br_t rfl (nm_r (nI_1 i) ?_))
      · have g0 : wpY_get (fun r_23 => (wpY_bad (fun r_24 => (wpY_isDone (fun r_25 => (((r_25 = 0 → (∀ x4_27 : Int32, x4_27 = (r_23 + (4096 * r_24)) + 8192 → (∃ n70 : Nat, wY_gather_70 post (wY_gather_7 post f_steps (nI l.length) f_known (d + 1)) (nI i) x4_27 f_steps (nI l.length) f_known (nI n) a_ops a_args a_length a_path a_list a_next a_table a_far af a_who a_what a_before a_tried n70 0))) ∧ (¬ r_25 = 0 → (∀ x4_45 : Int32, x4_45 = (r_23 + (4096 * r_24)) + 0 → (∃ n70 : Nat, wY_gather_70 post (wY_gather_7 post f_steps (nI l.length) f_known (d + 1)) (nI i) x4_45 f_steps (nI l.length) f_known (nI n) a_ops a_args a_length a_path a_list a_next a_table a_far af a_who a_what a_before a_tried n70 0)))))) (lN (zp_Y (zb_at l i))))) (lN (zp_Y (zb_at l i))))) (lN (zp_Y (zb_at l i))) 0 4095 := by
          show (fun r_23 => (wpY_bad (fun r_24 => (wpY_isDone (fun r_25 => (((r_25 = 0 → (∀ x4_27 : Int32, x4_27 = (r_23 + (4096 * r_24)) + 8192 → (∃ n70 : Nat, wY_gather_70 post (wY_gather_7 post f_steps (nI l.length) f_known (d + 1)) (nI i) x4_27 f_steps (nI l.length) f_known (nI n) a_ops a_args a_length a_path a_list a_next a_table a_far af a_who a_what a_before a_tried n70 0))) ∧ (¬ r_25 = 0 → (∀ x4_45 : Int32, x4_45 = (r_23 + (4096 * r_24)) + 0 → (∃ n70 : Nat, wY_gather_70 post (wY_gather_7 post f_steps (nI l.length) f_known (d + 1)) (nI i) x4_45 f_steps (nI l.length) f_known (nI n) a_ops a_args a_length a_path a_list a_next a_table a_far af a_who a_what a_before a_tried n70 0)))))) (lN (zp_Y (zb_at l i))))) (lN (zp_Y (zb_at l i))))) ((lN (zp_Y (zb_at l i)) >>> ((nI 0).toInt64 &&& 63)).toInt32 &&& nI 4095)
          rw [zp_getV hc]
          have b15 : zb_at l i 15 < 2 := hVi.2.2.2.2.1
          have er : ∀ z, nI (zb_at l i 0 + 8 * zb_at l i 1 + 64 * zb_at l i 2 + 512 * zb_at l i 3) + 4096 * nI (zb_at l i 15) + nI z =
              nI (zb_at l i 0 + 8 * zb_at l i 1 + 64 * zb_at l i 2 + 512 * zb_at l i 3 + (if zb_at l i 15 = 0 then 0 else 4096) + z) := by
            intro z
            have e1 : 4096 * nI (zb_at l i 15) = nI (4096 * zb_at l i 15) := pk_mul 4096 _
            rw [e1, nI_add, nI_add]
            refine congrArg nI ?_
            split <;> omega
          refine zy_bad hc (zy_isDone hC hVi (fun hd => br_f (by decide) (nm_r (e' := nI (ze_v L (zb_at l i))) ?_ ?_)) (fun hd => br_t rfl (nm_r (e' := nI (ze_v L (zb_at l i))) ?_ ?_)))
          · refine (er 0).trans (congrArg nI ?_)
            unfold ze_v; rw [if_pos (c := zs_done L (zb_at l i)) hd]
          · refine zy_ga70 (mk := ze_m o g L l i) (by omega) hv hS hA fun n' f' af' hn' hS' hA' => ih (i + 1) n' f' af' (by omega) (by omega) (by rw [ze_m_y he]; exact hS') hA'
          · refine (er 8192).trans (congrArg nI ?_)
            unfold ze_v; rw [if_neg (c := zs_done L (zb_at l i)) hd]
          · refine zy_ga70 (mk := ze_m o g L l i) (by omega) hv hS hA fun n' f' af' hn' hS' hA' => ih (i + 1) n' f' af' (by omega) (by omega) (by rw [ze_m_y he]; exact hS') hA'
        exact g0
      · exact ih (i + 1) n f af (by omega) (by omega) (by rw [ze_m_n he]; exact hS) hA
  exact ⟨_, key l.length 0 0 (fun _ => 0) a_found (by omega) (Nat.le_refl _) (ze_0 fun e _ => rfl) fun j hj => by omega⟩
end
theorem i_vc_endings {k : Nat} {u : SX} {v : SY} (I : i_Rel k u v) (hk : k + 5 ≤ 2560) : wpX_endings (fun r u' => wpY_endings (fun r' v' => r' = r ∧ i_Rel (k + 5) u' v') v) u := by
  obtain ⟨f_steps, f_foundCount, a_ops, a_args, a_codeLength, a_trail, a_cell, a_found, a_cameFrom, a_cameBy, a_distance, a_slots, a_isEnding, a_walkState, a_walkLeft, a_walkAsleep⟩ := u
  obtain ⟨f_steps1, f_count1, f_known1, f_different1, a_ops1, a_args1, a_length1, a_path1, a_list1, a_next1, a_table1, a_far1, a_found1, a_who1, a_what1, a_before1, a_tried1⟩ := v
  obtain ⟨o, g, L, n, h, hX, hY, e1, e2, hn, hh, hkn⟩ := I
  subst e1 e2
  obtain ⟨hx, hy, hV, hps⟩ := hh n (Nat.le_refl _)
  have rel : ∀ (count : Int32) (list : Nat → Int64) (next : Nat → Int32), zy_S o g L (h n) count list next → zr_P (nI n) a_ops a_args a_codeLength a_trail (nI n) count 1 a_ops1 a_args1 a_length1 a_path1 list next :=
    fun count list next hS => ⟨o, g, L, n, h, hX, hY, rfl, rfl, hn, hh, Or.inr ⟨rfl, hS⟩⟩
  have hFl := zr_Fl o g L (h n)
  have hFV : ∀ x, x ∈ zb_F o g L (h n) → zc_V o L x := zb_V hX.1 hV 3600
  unfold wpX_endings
  refine zx_explore hX hV hn hx (fun hm cell found cf cb ds sl => br_t rfl ?_) (fun hm cell found cf cb ds sl K => br_f (by decide) ?_)
  · show wpY_endings _ _
    unfold wpY_endings
    exact zy_know hY hV hn hy hkn (fun _ count list next table hS => br_t rfl ⟨rfl, rel _ _ _ hS⟩) (fun h _ _ _ _ _ => by omega)
  · refine zx_markEndings hX hFV hFl K.1 fun cell' ie hie => ?_
    show wpY_endings _ _
    unfold wpY_endings
    refine zy_know hY hV hn hy hkn (fun h _ _ _ _ _ => by omega) (fun _ count list next table hS => br_f (by decide) ?_)
    have hr := rel _ _ _ hS
    obtain ⟨s1, s2, s3⟩ := hS
    subst s1
    refine zy_gather hY hFV hm s2 fun m f af hm2 hS2 hA => ⟨?_, hr⟩
    rw [ze_all hS2]
theorem i_vc_ending {k : Nat} {u : SX} {v : SY} (I : i_Rel k u v) (hk : k + 5 ≤ 2560) (v1 : Int32) : wpX_ending (fun r u' => wpY_ending (fun r' v' => r' = r ∧ i_Rel (k + 5) u' v') v v1) u v1 := by
  obtain ⟨f_steps, f_foundCount, a_ops, a_args, a_codeLength, a_trail, a_cell, a_found, a_cameFrom, a_cameBy, a_distance, a_slots, a_isEnding, a_walkState, a_walkLeft, a_walkAsleep⟩ := u
  obtain ⟨f_steps1, f_count1, f_known1, f_different1, a_ops1, a_args1, a_length1, a_path1, a_list1, a_next1, a_table1, a_far1, a_found1, a_who1, a_what1, a_before1, a_tried1⟩ := v
  obtain ⟨o, g, L, n, h, hX, hY, e1, e2, hn, hh, hkn⟩ := I
  subst e1 e2
  obtain ⟨hx, hy, hV, hps⟩ := hh n (Nat.le_refl _)
  have rel : ∀ (count : Int32) (list : Nat → Int64) (next : Nat → Int32), zy_S o g L (h n) count list next → zr_P (nI n) a_ops a_args a_codeLength a_trail (nI n) count 1 a_ops1 a_args1 a_length1 a_path1 list next :=
    fun count list next hS => ⟨o, g, L, n, h, hX, hY, rfl, rfl, hn, hh, Or.inr ⟨rfl, hS⟩⟩
  have hFl := zr_Fl o g L (h n)
  have hFV : ∀ x, x ∈ zb_F o g L (h n) → zc_V o L x := zb_V hX.1 hV 3600
  unfold wpX_ending
  refine zx_explore hX hV hn hx (fun hm cell found cf cb ds sl => br_t rfl ?_) (fun hm cell found cf cb ds sl K => br_f (by decide) ?_)
  · show wpY_ending _ _ _
    unfold wpY_ending
    exact zy_know hY hV hn hy hkn (fun _ count list next table hS => br_t rfl ⟨rfl, rel _ _ _ hS⟩) (fun h _ _ _ _ _ => by omega)
  · refine zx_markEndings hX hFV hFl K.1 fun cell' ie hie => ?_
    -- the sorted endings are what the reference gathers: take them first
    have yl : ∀ (P : Int32 → SY → Prop), (∀ (count : Int32) (list : Nat → Int64) (next table af : Nat → Int32) (m : Nat) (f : Nat → Nat), zy_S o g L (h n) count list next → m ≤ 1200 →
        ze_S f m (ze_m o g L (zb_F o g L (h n)) (zb_F o g L (h n)).length) →
        ((∀ q, q < m → v1 = nI q → P (nI (f q)) (nI n, count, 1, nI m, a_ops1, a_args1, a_length1, a_path1, list, next, table, a_far1, af, a_who1, a_what1, a_before1, a_tried1)) ∧
         ((∀ q, q < m → v1 ≠ nI q) → P (-1) (nI n, count, 1, nI m, a_ops1, a_args1, a_length1, a_path1, list, next, table, a_far1, af, a_who1, a_what1, a_before1, a_tried1)))) →
        wpY_ending P (nI n, f_count1, f_known1, f_different1, a_ops1, a_args1, a_length1, a_path1, a_list1, a_next1, a_table1, a_far1, a_found1, a_who1, a_what1, a_before1, a_tried1) v1 := by
      intro P hP
      unfold wpY_ending
      refine zy_know hY hV hn hy hkn (fun h _ _ _ _ _ => by omega) (fun _ count list next table hS => br_f (by decide) ?_)
      have hS' := hS
      obtain ⟨s1, s2, s3⟩ := hS
      subst s1
      refine zy_gather hY hFV hm s2 fun m f af hm2 hS2 hA => ?_
      have hh2 := hP _ list next table af m f hS' hm2 hS2
      refine br_c (fun hneg => hh2.2 fun q hq e => ?_) (fun h0 => ?_)
      · rw [e] at hneg; exact nI_pos (by omega) hneg
      obtain ⟨q, hq, rfl⟩ := nI_of h0
      refine pk_le m q (fun hge => hh2.2 fun q' hq' e => ?_) (fun hlt => And.intro (vp_in_nI (by omega) (by omega)) ?_) rfl rfl (by omega) (by omega)
      · have := zr_nI e hq (by omega)
        omega
      · rw [nI_clamp (by omega), hA q hlt]
        exact hh2.1 q hlt rfl
    obtain ⟨m, f, hS⟩ : ∃ (m : Nat) (f : Nat → Nat), m ≤ 1200 ∧ ze_S f m (ze_m o g L (zb_F o g L (h n)) (zb_F o g L (h n)).length) := ze_ex hm (fun i hi => ze_v_lt (zp_bX (zx_L5 hX) (hFV _ (zb_at_mem hi))))
    obtain ⟨hm2, hS⟩ := hS
    refine zx_ending19 hS (fun e => ze_m_1 _ e) hie (by omega) (fun q hq e => ?_) (fun hno => ?_)
    · refine yl _ fun count list next table af m' f' hSy hm' hS' => ?_
      have em : m' = m := (ze_all hS').symm.trans (ze_all hS)
      subst em
      refine ⟨fun q' hq' e' => ⟨?_, rel _ _ _ hSy⟩, fun hno => absurd e (hno q hq)⟩
      have eq : q' = q := zr_nI (e'.symm.trans e) (by omega) (by omega)
      subst eq
      exact congrArg nI (ze_same hS' hS hq)
    · refine yl _ fun count list next table af m' f' hSy hm' hS' => ?_
      have em : m' = m := (ze_all hS').symm.trans (ze_all hS)
      subst em
      exact ⟨fun q' hq' e' => absurd e' (hno q' hq'), fun _ => ⟨rfl, rel _ _ _ hSy⟩⟩
