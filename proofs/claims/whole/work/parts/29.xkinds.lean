/-! the component's walk: one level, descend, enter -/
theorem zk_nb : ∀ m, m < 8 → ∀ a, a < 8 → nI m &&& (nI a ^^^ (-1)) = nI (m &&& (a ^^^ 7)) := by decide +kernel
theorem zk_nb8 : ∀ m, m < 8 → ∀ a, a < 8 → m &&& (a ^^^ 7) < 8 := by decide
theorem zk_nbt : ∀ m, m < 8 → ∀ a, a < 8 → ∀ u, u < 3 → (m &&& (a ^^^ 7)).testBit u = (m.testBit u && !a.testBit u) := by decide
theorem zk_1t : ∀ t, t < 3 → (1 : Int32) <<< (nI t &&& 31) = nI (2 ^ t) := by decide +kernel
theorem zk_p8 : ∀ t, t < 3 → 2 ^ t < 8 := by decide
theorem zk_M_diff {m a : Nat} {P Q : Nat → Prop} (hm : zx_M m P) (ha : zx_M a Q) : zx_M (m &&& (a ^^^ 7)) (fun u => P u ∧ ¬ Q u) := by
  refine ⟨zk_nb8 m hm.1 a ha.1, fun u hu => ?_⟩
  rw [zk_nbt m hm.1 a ha.1 u hu, Bool.and_eq_true, Bool.not_eq_true', hm.2 u hu]
  have := ha.2 u hu
  cases e : a.testBit u
  · rw [e] at this
    constructor
    · rintro ⟨h1, _⟩; exact ⟨h1, fun h2 => absurd (this.mpr h2) (by decide)⟩
    · rintro ⟨h1, _⟩; exact ⟨h1, rfl⟩
  · rw [e] at this
    constructor
    · rintro ⟨_, h2⟩; exact absurd h2 (by decide)
    · rintro ⟨_, h2⟩; exact absurd (this.mp rfl) h2
theorem zk_M_c {m : Nat} {P Q : Nat → Prop} (h : zx_M m P) (e : ∀ u, u < 3 → (P u ↔ Q u)) : zx_M m Q := ⟨h.1, fun u hu => (h.2 u hu).trans (e u hu)⟩
theorem zk_M_bit (t : Nat) (ht : t < 3) : zx_M (2 ^ t) (fun u => u = t) := by
  refine ⟨zk_p8 t ht, fun u hu => ?_⟩
  rw [Nat.testBit_two_pow, decide_eq_true_iff]
  exact eq_comm
theorem zk_M_or {m a : Nat} {P Q : Nat → Prop} (hm : zx_M m P) (ha : zx_M a Q) (h8 : m ||| a < 8) : zx_M (m ||| a) (fun u => P u ∨ Q u) := by
  refine ⟨h8, fun u hu => ?_⟩
  rw [Nat.testBit_or, Bool.or_eq_true, hm.2 u hu, ha.2 u hu]
/-- one level of the walk: the state, the threads to be tried from t on, the asleep -/
def zk_lx (o g L c : Nat → Nat) (p : List Nat) (t : Nat) (s : Int64) (lf as : Int32) : Prop :=
  s = lN (zp_X (zt_run o g L c p)) ∧ (∃ m, lf = nI m ∧ zx_M m (fun u => t ≤ u ∧ zk_via o g L c p u)) ∧
  ∃ m, as = nI m ∧ zx_M m (fun u => zc_R o g L (zt_run o g L c p) u ∧ (u < t ∨ zt_bel o g (zk_acc o g L c p) u (zc_pc (zt_run o g L c p) u)))
theorem zk_acc_s {o g L c : Nat → Nat} {w : List Nat} {t : Nat} : zk_acc o g L c (w ++ [t]) = (t, zc_pc (zt_run o g L c w) t) :: zk_acc o g L c w := by
  unfold zk_acc
  rw [zt_lab_app]
  simp [zt_lab]
theorem zk_run_s {o g L c : Nat → Nat} {w : List Nat} {t : Nat} : zt_run o g L c (w ++ [t]) = zc_step o g L (zt_run o g L c w) t := by
  rw [zt_run_app]; rfl
/-- the asleep after a step: those that were, or were tried before, and are not touched -/
theorem zk_asl {o g L c : Nat → Nat} {w : List Nat} {t tr : Nat} (hK : zc_K o g L) (hV : zc_V o L (zt_run o g L c w)) (ht : t < 3) (htr : tr ≤ t)
    (hno : ∀ u, tr ≤ u → u < t → ¬ zk_via o g L c w u) (hv : zk_via o g L c w t) {u : Nat} (hu : u < 3) :
    ((zc_R o g L (zt_run o g L c w) u ∧ (u < tr ∨ zt_bel o g (zk_acc o g L c w) u (zc_pc (zt_run o g L c w) u))) ∧ ¬ zc_T o g (zc_pc (zt_run o g L c w) t) (zc_pc (zt_run o g L c w) u)) ↔
    (zc_R o g L (zt_run o g L c (w ++ [t])) u ∧ (u < 0 ∨ zt_bel o g (zk_acc o g L c (w ++ [t])) u (zc_pc (zt_run o g L c (w ++ [t])) u))) := by
  rw [zk_acc_s, zk_run_s]
  constructor
  · rintro ⟨⟨hR, h⟩, hT⟩
    have hne : u ≠ t := by
      intro e
      subst e
      rcases h with h | h
      · omega
      · exact hv.2 h
    refine ⟨(zc_Riff hK hV hu hne hT).mpr hR, Or.inr ?_⟩
    rw [zc_pc_o hu hne]
    refine ⟨⟨Ne.symm hne, hT⟩, ?_⟩
    by_cases hlt : u < t
    · exact Or.inl hlt
    · rcases h with h | h
      · omega
      · exact Or.inr h
  · rintro ⟨hR, h⟩
    rcases h with h | h
    · omega
    · have hne : u ≠ t := fun e => h.1.1 e.symm
      rw [zc_pc_o hu hne] at h
      have hT := h.1.2
      have hR' := (zc_Riff hK hV hu hne hT).mp hR
      refine ⟨⟨hR', ?_⟩, hT⟩
      rcases h.2 with h2 | h2
      · by_cases h3 : u < tr
        · exact Or.inl h3
        · right
          exact Classical.byContradiction fun hb => hno u (by omega) h2 ⟨hR', hb⟩
      · exact Or.inr h2
section
variable {o g L c : Nat → Nat} {f_steps f_foundCount : Int32} {a_ops a_args a_codeLength a_cell a_cameFrom a_cameBy a_distance a_slots a_isEnding a_walkLeft a_walkAsleep : Nat → Int32} {a_trail a_found a_walkState : Nat → Int64}
theorem zx_lowestOf {post : Int32 → Prop} {m : Nat} (hm : m < 8) (h0 : m ≠ 0) (hp : ∀ t, t < 3 → m.testBit t = true → (∀ s, s < t → m.testBit s = false) → post (nI t)) : wpX_lowestOf post (nI m) := by
  refine ⟨3, ?_⟩
  refine br_f (by decide) (br_c (fun e0 => nm_r (nI_1 0) ?_) (fun e0 => hp 0 (by omega) ?_ (fun s hs => by omega)))
  · have b0 := (zx_bit 0 (by omega) m hm).mp e0
    refine br_f (by decide) (br_c (fun e1 => nm_r (nI_1 1) ?_) (fun e1 => hp 1 (by omega) ?_ (fun s hs => ?_)))
    · have b1 := (zx_bit 1 (by omega) m hm).mp e1
      refine br_t (by decide) (hp 2 (by omega) ?_ fun s hs => ?_)
      · have : ∀ m, m < 8 → m ≠ 0 → m.testBit 0 = false → m.testBit 1 = false → m.testBit 2 = true := by decide
        exact this m hm h0 b0 b1
      · have : s = 0 ∨ s = 1 := by omega
        rcases this with e | e <;> subst e <;> assumption
    · cases e : m.testBit 1
      · exact absurd ((zx_bit 1 (by omega) m hm).mpr e) e1
      · rfl
    · have : s = 0 := by omega
      subst this; exact b0
  · cases e : m.testBit 0
    · exact absurd ((zx_bit 0 (by omega) m hm).mpr e) e0
    · rfl
/-- taking a state into the walk -/
theorem zx_enter {post : Int32 → SX → Prop} {w : List Nat} {a d : Nat} (hC : zx_C o g L a_ops a_args a_codeLength) (hV : zc_V o L (zt_run o g L c w)) (hE : zx_E (zt_run o g L c w) a_cell) (hd : d ≤ 30)
    (ha : zx_M a (fun u => zc_R o g L (zt_run o g L c w) u ∧ (u < 0 ∨ zt_bel o g (zk_acc o g L c w) u (zc_pc (zt_run o g L c w) u))))
    (hp : ∀ (s : Int64) (lf : Int32), zk_lx o g L c w 0 s lf (nI a) →
      (zt_end o g L (zt_run o g L c w) → post 1 (f_steps, f_foundCount, a_ops, a_args, a_codeLength, a_trail, a_cell, a_found, a_cameFrom, a_cameBy, a_distance, a_slots, a_isEnding, vp_updL a_walkState d s, upd a_walkLeft d lf, upd a_walkAsleep d (nI a))) ∧
      (¬ zt_end o g L (zt_run o g L c w) → post 0 (f_steps, f_foundCount, a_ops, a_args, a_codeLength, a_trail, a_cell, a_found, a_cameFrom, a_cameBy, a_distance, a_slots, a_isEnding, vp_updL a_walkState d s, upd a_walkLeft d lf, upd a_walkAsleep d (nI a)))) :
    wpX_enter post (f_steps, f_foundCount, a_ops, a_args, a_codeLength, a_trail, a_cell, a_found, a_cameFrom, a_cameBy, a_distance, a_slots, a_isEnding, a_walkState, a_walkLeft, a_walkAsleep) (nI d) (nI a) := by
  have ec : (nI d).toNatClampNeg = d := nI_clamp (by omega)
  have id : vp_in (nI d) 31 := vp_in_nI (by omega) (by omega)
  unfold wpX_enter
  refine zx_readyThreads hC hV hE fun m hm => zx_packed hE (zp_bX (zx_L5 hC) hV) ?_
  refine And.intro id (nm_e (And.intro id (nm_e (And.intro id (nm_e ?_)))))
  rw [ec, zk_nb m hm.1 a ha.1]
  have hh := hp (lN (zp_X (zt_run o g L c w))) (nI (m &&& (a ^^^ 7))) ⟨rfl, ⟨_, rfl, zk_M_c (zk_M_diff hm ha) fun u hu => ?_⟩, a, rfl, ha⟩
  · exact pk_eq m 0 (fun e => hh.1 ((zx_M_0 hm).mp e)) (fun e => hh.2 fun he => e ((zx_M_0 hm).mpr he)) rfl rfl (by have := hm.1; omega) (by omega)
  · unfold zk_via
    constructor
    · rintro ⟨h1, h2⟩; exact ⟨Nat.zero_le _, h1, fun hb => h2 ⟨h1, Or.inr hb⟩⟩
    · rintro ⟨_, h1, h2⟩
      refine ⟨h1, fun h => ?_⟩
      rcases h.2 with h | h
      · omega
      · exact h2 h
/-- going on with the lowest thread left -/
theorem zx_descend {post : Int32 → SX → Prop} {w : List Nat} {tr d : Nat} (hC : zx_C o g L a_ops a_args a_codeLength) (hV : zc_V o L (zt_run o g L c w)) (hd : d < 30)
    (hl : zk_lx o g L c w tr (a_walkState d) (a_walkLeft d) (a_walkAsleep d)) (hne : ∃ u, u < 3 ∧ tr ≤ u ∧ zk_via o g L c w u)
    (hp : ∀ t, t < 3 → tr ≤ t → zk_via o g L c w t → (∀ u, tr ≤ u → u < t → ¬ zk_via o g L c w u) →
      ∀ (cell : Nat → Int32) (lf as : Int32) (s' : Int64) (lf' as' : Int32), zk_lx o g L c w (t + 1) (a_walkState d) lf as → zk_lx o g L c (w ++ [t]) 0 s' lf' as' →
      (zt_end o g L (zt_run o g L c (w ++ [t])) → post 1 (f_steps, f_foundCount, a_ops, a_args, a_codeLength, a_trail, cell, a_found, a_cameFrom, a_cameBy, a_distance, a_slots, a_isEnding, vp_updL a_walkState (d + 1) s', upd (upd a_walkLeft d lf) (d + 1) lf', upd (upd a_walkAsleep d as) (d + 1) as')) ∧
      (¬ zt_end o g L (zt_run o g L c (w ++ [t])) → post 0 (f_steps, f_foundCount, a_ops, a_args, a_codeLength, a_trail, cell, a_found, a_cameFrom, a_cameBy, a_distance, a_slots, a_isEnding, vp_updL a_walkState (d + 1) s', upd (upd a_walkLeft d lf) (d + 1) lf', upd (upd a_walkAsleep d as) (d + 1) as'))) :
    wpX_descend post (f_steps, f_foundCount, a_ops, a_args, a_codeLength, a_trail, a_cell, a_found, a_cameFrom, a_cameBy, a_distance, a_slots, a_isEnding, a_walkState, a_walkLeft, a_walkAsleep) (nI d) := by
  obtain ⟨l1, ⟨m, l2, hm⟩, am, l3, ham⟩ := hl
  have ec : (nI d).toNatClampNeg = d := nI_clamp (by omega)
  have id : vp_in (nI d) 31 := vp_in_nI (by omega) (by omega)
  have hB := zp_bX (zx_L5 hC) hV
  have hm0 : m ≠ 0 := by
    intro e
    obtain ⟨u, hu, h1, h2⟩ := hne
    exact (zx_M_0 hm).mp e u hu ⟨h1, h2⟩
  refine And.intro id (zx_unpack' (c := zt_run o g L c w) (by rw [ec]; exact l1) hB fun a1 ha1 => And.intro id ?_)
  rw [ec, l2]
  refine zx_lowestOf hm.1 hm0 fun t ht hbt hlow => ?_
  have hvt := (hm.2 t ht).mp hbt
  have hno : ∀ u, tr ≤ u → u < t → ¬ zk_via o g L c w u := by
    intro u h1 h2 h3
    have := (hm.2 u (by omega)).mpr ⟨h1, h3⟩
    rw [hlow u h2] at this
    exact absurd this (by decide)
  have hpp := hp t ht hvt.1 hvt.2 hno
  have hR := hvt.2.1
  have hVs := zc_V_step hC.1 hV ht hR
  have asl : a_walkAsleep (nI d).toNatClampNeg = nI am := by rw [ec]; exact l3
  have lft : a_walkLeft (nI d).toNatClampNeg = nI m := by rw [ec]; exact l2
  have key : ∀ e u x, u + e = 3 → x < 8 → (∀ s, s < 3 → (x.testBit s = true ↔ s < u ∧ ((zc_R o g L (zt_run o g L c w) s ∧ (s < tr ∨ zt_bel o g (zk_acc o g L c w) s (zc_pc (zt_run o g L c w) s))) ∧ ¬ zc_T o g (zc_pc (zt_run o g L c w) t) (zc_pc (zt_run o g L c w) s)))) →
      wX_descend_25 post (nI d) (nI t) f_steps f_foundCount a_ops a_args a_codeLength a_trail a1 a_found a_cameFrom a_cameBy a_distance a_slots a_isEnding a_walkState a_walkLeft a_walkAsleep (e + 1) (nI x) (nI u) := by
    intro e
    induction e with
    | zero =>
      intro u x hu hx hb
      have eu : u = 3 := by omega
      subst eu
      have hMx : zx_M x (fun u => zc_R o g L (zt_run o g L c (w ++ [t])) u ∧ (u < 0 ∨ zt_bel o g (zk_acc o g L c (w ++ [t])) u (zc_pc (zt_run o g L c (w ++ [t])) u))) := by
        refine ⟨hx, fun s hs => ?_⟩
        rw [hb s hs]
        have ha := zk_asl hC.1 hV ht hvt.1 hno hvt.2 hs
        exact ⟨fun h => ha.mp h.2, fun h => ⟨hs, ha.mpr h⟩⟩
      refine br_t (by decide) (And.intro id (And.intro id (nm_e (And.intro id (And.intro id (nm_e ?_))))))
      rw [ec, l2, l3, zk_1t t ht, zk_nb m hm.1 (2 ^ t) (zk_p8 t ht)]
      have e1 : nI am ||| nI (2 ^ t) = nI (am ||| 2 ^ t) := by
        have := zx_or t ht am ham.1
        rwa [zk_1t t ht] at this
      rw [e1]
      refine zx_advance hC hV ht ha1 hR fun a2 ha2 => ?_
      rw [nI_1]
      rw [← zk_run_s] at ha2 hVs
      refine zx_enter (w := w ++ [t]) hC hVs ha2 (by omega) hMx fun s' lf' hlx => ?_
      have hh := hpp a2 (nI (m &&& (2 ^ t ^^^ 7))) (nI (am ||| 2 ^ t)) s' lf' (nI x) ⟨l1, ⟨_, rfl, zk_M_c (zk_M_diff hm (zk_M_bit t ht)) fun u hu => ?_⟩, _, rfl, zk_M_c (zk_M_or ham (zk_M_bit t ht) (zx_or8 t ht am ham.1)) fun u hu => ?_⟩ hlx
      · exact ⟨fun h => And.intro zy_nb1 (hh.1 h), fun h => And.intro zy_nb0 (hh.2 h)⟩
      · constructor
        · rintro ⟨⟨h1, h2⟩, h3⟩
          refine ⟨?_, h2⟩
          rcases Nat.lt_trichotomy u t with h4 | h4 | h4
          · exact absurd h2 (hno u h1 h4)
          · exact absurd h4 h3
          · exact h4
        · rintro ⟨h1, h2⟩
          exact ⟨⟨by have := hvt.1; omega, h2⟩, by omega⟩
      · constructor
        · rintro (⟨h1, h2⟩ | h)
          · refine ⟨h1, h2.imp (fun h3 => ?_) fun h3 => h3⟩
            have := hvt.1
            omega
          · subst h; exact ⟨hR, Or.inl (by omega)⟩
        · rintro ⟨h1, h2⟩
          by_cases h3 : u = t
          · exact Or.inr h3
          · refine Or.inl ⟨h1, ?_⟩
            rcases h2 with h2 | h2
            · by_cases h4 : u < tr
              · exact Or.inl h4
              · right
                exact Classical.byContradiction fun hbb => hno u (by omega) (by omega) ⟨h1, hbb⟩
            · exact Or.inr h2
    | succ e ih =>
      intro u x hu hx hb
      have hu3 : u < 3 := by omega
      refine br_f (nI_ge (b := 3) (by omega) (by decide)) (And.intro id ?_)
      rw [asl]
      refine br_c (fun e0 => nm_r (nI_1 u) ?_) (fun e0 => ?_)
      · have hbu := (zx_bit u hu3 am ham.1).mp e0
        refine ih (u + 1) x (by omega) hx (zx_M_no hb fun h => ?_)
        have := (ham.2 u hu3).mpr h.1
        rw [hbu] at this
        exact absurd this (by decide)
      · have hbu : am.testBit u = true := by
          cases e1 : am.testBit u
          · exact absurd ((zx_bit u hu3 am ham.1).mpr e1) e0
          · rfl
        have hau := (ham.2 u hu3).mp hbu
        refine zx_doTouch hC ha1 ht hu3 hR.1 hau.1.1 (fun hT => br_f (by decide) (nm_r (nI_1 u) ?_)) (fun hT => br_t rfl ?_)
        · exact ih (u + 1) x (by omega) hx (zx_M_no hb fun h => h.2 hT)
        · have hx2 := zx_M_or hx hb hu3 ⟨hau, hT⟩
          exact nm_r (zx_or u hu3 x hx) (nm_r (nI_1 u) (ih (u + 1) _ (by omega) hx2.1 hx2.2))
  exact ⟨4, key 3 0 0 rfl (by omega) (fun s hs => by simp)⟩
end
