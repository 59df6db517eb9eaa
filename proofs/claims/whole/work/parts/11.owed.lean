/-! what is owed -/
def i_Rel (_ : Nat) (u : SX) (v : SY) : Prop := ∃ (f : Int32) (K O L B va ho dn tT tS : Nat → Int32) (f' : Int32) (tu st va' ac ho' : Nat → Int32), u = (f, K, O, L, B, va, ho, dn, tT, tS) ∧ v = (f', L, K, O, B, tu, st, va', ac, ho') ∧ sr_gd K O L
theorem sr_rel {k : Nat} {K O L B va ho dn tT tS tu st va' ac ho' : Nat → Int32} {f f' : Int32} (g : sr_gd K O L) : i_Rel k (f, K, O, L, B, va, ho, dn, tT, tS) (f', L, K, O, B, tu, st, va', ac, ho') :=
  ⟨f, K, O, L, B, va, ho, dn, tT, tS, f', tu, st, va', ac, ho', rfl, rfl, g⟩
theorem i_up {k : Nat} {u : SX} {v : SY} (h : i_Rel k u v) : i_Rel (k + 5) u v := h
theorem i_vc0 : wpX_init (fun u => wpY_init (fun v => i_Rel 0 u v)) :=
  sr_rel (k := 0) ⟨fun _ _ => ⟨0, by omega, nI_0.symm⟩, fun _ _ => ⟨0, by omega, nI_0.symm, fun _ => ⟨0, by omega, nI_0.symm⟩, fun h => by omega⟩⟩
theorem i_vc_step {k : Nat} {u : SX} {v : SY} (I : i_Rel k u v) (hk : k + 5 ≤ 2560) (v1 : Int32) (v2 : Int32) (v3 : Int32) : wpX_step (fun r u' => wpY_step (fun r' v' => r' = r ∧ i_Rel (k + 5) u' v') v v1 v2 v3) u v1 v2 v3 := by
  obtain ⟨f, K, O, L, B, va, ho, dn, tT, tS, f', tu, st, va', ac, ho', rfl, rfl, g⟩ := I
  rcases sr_rg v1 with h | ⟨t, ht, e⟩
  · unfold wpX_step
    dsimp only
    refine sr_x_thr_n h _ (br_t rfl ?_)
    unfold wpY_step
    dsimp only
    exact sr_y_thr_n h _ (br_t rfl ⟨rfl, sr_rel g⟩)
  · subst e
    rcases pk_ix v2 (n := 6) (by decide) with h | h | ⟨c, hc, e⟩
    · exact sr_x_stpo ht (Or.inl h) _ (sr_y_stpn ht (Or.inl h) _ ⟨rfl, sr_rel g⟩)
    · exact sr_x_stpo ht (Or.inr h) _ (sr_y_stpn ht (Or.inr h) _ ⟨rfl, sr_rel g⟩)
    · subst e
      obtain ⟨m, hm, eL⟩ := g.1 t ht
      refine sr_x_stpm ht (by omega) hm eL _ (fun w z => ?_) (fun w z => ?_) (fun w => ?_)
      · exact sr_y_stp ht (by omega) _ (fun _ => sr_y_47 ht hm eL _ (fun _ => ⟨rfl, sr_rel (sr_gd_L (sr_gd_KO g (by omega) w) (by omega))⟩) (fun y => by omega)) (fun y => absurd w y)
      · exact sr_y_stp ht (by omega) _ (fun _ => sr_y_47 ht hm eL _ (fun y => by omega) (fun _ => ⟨rfl, sr_rel g⟩)) (fun y => absurd w y)
      · exact sr_y_stp ht (by omega) _ (fun y => absurd y w) (fun _ => ⟨rfl, sr_rel g⟩)
theorem i_vc_drop {k : Nat} {u : SX} {v : SY} (I : i_Rel k u v) (hk : k + 5 ≤ 2560) (v1 : Int32) : wpX_drop (fun r u' => wpY_drop (fun r' v' => r' = r ∧ i_Rel (k + 5) u' v') v v1) u v1 := by
  obtain ⟨f, K, O, L, B, va, ho, dn, tT, tS, f', tu, st, va', ac, ho', rfl, rfl, g⟩ := I
  unfold wpX_drop wpY_drop
  dsimp only
  rcases sr_rg v1 with h | ⟨t, ht, e⟩
  · exact sr_x_thr_n h _ (br_t rfl (sr_y_thr_n h _ (br_t rfl ⟨rfl, sr_rel g⟩)))
  · subst e
    obtain ⟨m, hm, eL⟩ := g.1 t ht
    have e1 : L (nI t).toNatClampNeg = nI m := by rw [nI_clamp (by omega), eL]
    have it : vp_in (nI t) 3 := pk_in t 3 ht
    refine sr_x_thr_y ht _ (br_f (by decide) ⟨it, pk_eq m 0 (fun z => ?_) (fun z => ⟨it, it, nm_r (e' := upd L t (nI (m - 1))) ?_ ⟨it, ?_⟩⟩) e1⟩)
    · exact sr_y_thr_y ht _ (br_f (by decide) ⟨it, br_t (by rw [e1, z]; rfl) ⟨rfl, sr_rel g⟩⟩)
    · rw [e1, nI_clamp (n := t) (by omega)]
      exact congrArg (upd L t) (pk_sub (b := 1) (by omega))
    · refine sr_y_thr_y ht _ (br_f (by decide) ⟨it, pk_eq m 0 (fun y => absurd y z) (fun _ => ⟨it, it, nm_r (e' := upd L t (nI (m - 1))) ?_ ⟨it, rfl, sr_rel (sr_gd_L g (by omega))⟩⟩) e1⟩)
      rw [e1, nI_clamp (n := t) (by omega)]
      exact congrArg (upd L t) (pk_sub (b := 1) (by omega))
theorem i_vc_begin {k : Nat} {u : SX} {v : SY} (I : i_Rel k u v) (hk : k + 5 ≤ 2560) (v1 : Int32) (v2 : Int32) (v3 : Int32) : wpX_begin (fun r u' => wpY_begin (fun r' v' => r' = r ∧ i_Rel (k + 5) u' v') v v1 v2 v3) u v1 v2 v3 := by
  obtain ⟨f, K, O, L, B, va, ho, dn, tT, tS, f', tu, st, va', ac, ho', rfl, rfl, g⟩ := I
  unfold wpX_begin wpY_begin
  dsimp only
  by_cases h0 : v1 = 0
  · subst h0
    refine br_t rfl ?_
    rcases sr_rg v2 with h | ⟨t, ht, e⟩
    · exact sr_x_var_n h _ (br_t rfl (br_f (by decide) (br_t rfl (br_c (fun _ => ⟨rfl, sr_rel g⟩) (fun z => br_f (sr_n2 (h.resolve_left z)) ⟨rfl, sr_rel g⟩)))))
    · subst e
      have e3 : 3 * 0 + nI t = nI t := by
        have q := sr_ix 3 0 t
        rw [Nat.mul_zero, Nat.zero_add] at q
        exact q
      refine sr_x_var_y ht _ (br_f (by decide) ⟨pk_in t 6 (by omega), nm_r (e' := upd B t v3) (by rw [nI_clamp (n := t) (by omega)]) (br_t rfl (br_f (nI_pos (by omega)) (br_t (nI_le (b := 2) (by omega) (by decide)) ⟨pk_in t 6 (by omega) e3, nm_r (e' := upd B t v3) (by rw [pk_cl t e3]) ⟨rfl, sr_rel g⟩⟩)))⟩)
  · by_cases h1 : v1 = 1
    · subst h1
      refine br_f h0 (br_t rfl ?_)
      rcases sr_rg v2 with h | ⟨t, ht, e⟩
      · exact sr_x_thr_n h _ (br_t rfl (br_f h0 (br_t rfl (br_c (fun _ => ⟨rfl, sr_rel g⟩) (fun z => br_f (sr_n2 (h.resolve_left z)) ⟨rfl, sr_rel g⟩)))))
      · subst e
        have e2 : 3 + nI t = nI (3 + t) := nI_add 3 t
        have e3 : 3 * 1 + nI t = nI (3 + t) := sr_ix 3 1 t
        refine sr_x_thr_y ht _ (br_f (by decide) ⟨pk_in (3 + t) 6 (by omega) e2, nm_r (e' := upd B (3 + t) v3) (by rw [pk_cl _ e2]) (br_f h0 (br_t rfl (br_f (nI_pos (by omega)) (br_t (nI_le (b := 2) (by omega) (by decide)) ⟨pk_in (3 + t) 6 (by omega) e3, nm_r (e' := upd B (3 + t) v3) (by rw [pk_cl _ e3]) ⟨rfl, sr_rel g⟩⟩))))⟩)
    · exact br_f h0 (br_f h1 (br_f h0 (br_f h1 ⟨rfl, sr_rel g⟩)))
theorem i_vc_length {k : Nat} {u : SX} {v : SY} (I : i_Rel k u v) (hk : k + 5 ≤ 2560) (v1 : Int32) : wpX_length (fun r => wpY_length (fun r' => r' = r ∧ i_Rel (k + 5) u v) v v1) u v1 := by
  obtain ⟨f, K, O, L, B, va, ho, dn, tT, tS, f', tu, st, va', ac, ho', rfl, rfl, g⟩ := I
  unfold wpX_length wpY_length
  dsimp only
  rcases sr_rg v1 with h | ⟨t, ht, e⟩
  · exact sr_x_thr_n h _ (br_t rfl (sr_y_thr_n h _ (br_t rfl ⟨rfl, sr_rel g⟩)))
  · subst e
    exact sr_x_thr_y ht _ (br_f (by decide) ⟨pk_in t 3 ht, sr_y_thr_y ht _ (br_f (by decide) ⟨pk_in t 3 ht, rfl, sr_rel g⟩)⟩)
theorem i_vc_schedules {k : Nat} {u : SX} {v : SY} (I : i_Rel k u v) (hk : k + 5 ≤ 2560) : wpX_schedules (fun r u' => wpY_schedules (fun r' v' => r' = r ∧ i_Rel (k + 5) u' v') v) u := by
  obtain ⟨f, K, O, L, B, va, ho, dn, tT, tS, f', tu, st, va', ac, ho', rfl, rfl, g⟩ := I
  obtain ⟨l, hC, hl⟩ := sr_ends g B
  exact sr_xm_sch g hC hl _ (fun _ _ _ _ _ _ => sr_ym_sch g hC hl _ (fun _ _ _ _ _ _ => ⟨rfl, sr_rel g⟩))
theorem i_vc_classes {k : Nat} {u : SX} {v : SY} (I : i_Rel k u v) (hk : k + 5 ≤ 2560) : wpX_classes (fun r u' => wpY_classes (fun r' v' => r' = r ∧ i_Rel (k + 5) u' v') v) u := by
  obtain ⟨f, K, O, L, B, va, ho, dn, tT, tS, f', tu, st, va', ac, ho', rfl, rfl, g⟩ := I
  obtain ⟨l, hC, hl⟩ := sr_ends g B
  exact sr_xm_cls g hC hl _ (fun _ _ _ _ _ _ => sr_ym_cls g hC hl _ (fun _ _ _ _ _ _ => ⟨rfl, sr_rel g⟩))
theorem i_vc_canStick {k : Nat} {u : SX} {v : SY} (I : i_Rel k u v) (hk : k + 5 ≤ 2560) : wpX_canStick (fun r u' => wpY_canStick (fun r' v' => r' = r ∧ i_Rel (k + 5) u' v') v) u := by
  obtain ⟨f, K, O, L, B, va, ho, dn, tT, tS, f', tu, st, va', ac, ho', rfl, rfl, g⟩ := I
  obtain ⟨l, hC, hl⟩ := sr_ends g B
  exact sr_xm_stk g hC hl _ (fun _ _ _ _ _ _ => sr_ym_stk g hC hl _ (fun _ _ _ _ _ _ => ⟨rfl, sr_rel g⟩))
theorem i_vc_canEnd {k : Nat} {u : SX} {v : SY} (I : i_Rel k u v) (hk : k + 5 ≤ 2560) (v1 : Int32) (v2 : Int32) : wpX_canEnd (fun r u' => wpY_canEnd (fun r' v' => r' = r ∧ i_Rel (k + 5) u' v') v v1 v2) u v1 v2 := by
  obtain ⟨f, K, O, L, B, va, ho, dn, tT, tS, f', tu, st, va', ac, ho', rfl, rfl, g⟩ := I
  obtain ⟨l, hC, hl⟩ := sr_ends g B
  unfold wpX_canEnd wpY_canEnd
  dsimp only
  rcases sr_rg v1 with h | ⟨x, hx, e⟩
  · refine sr_x_var_n h _ (br_t rfl ?_)
    unfold wpY_canEndBoth
    dsimp only
    exact br_c (fun _ => ⟨sr_b_n false, rfl, sr_rel g⟩) (fun z => br_t (sr_32 (h.resolve_left z)) ⟨sr_b_n false, rfl, sr_rel g⟩)
  · subst e
    refine sr_x_var_y hx _ (br_f (by decide) (sr_xm_ce g hC hl _ hx hx (fun _ _ _ _ _ _ => ?_)))
    generalize hq : sr_an (sr_eb K O B x x v2 v2) (sr_first K O L B :: l) = q
    cases q
    · exact br_t rfl (sr_ym_ce g hC hl _ hx hx (fun _ _ _ _ _ _ => ⟨sr_b_n _, by rw [hq]; exact ⟨rfl, sr_rel g⟩⟩))
    · exact br_f (by decide) (sr_ym_ce g hC hl _ hx hx (fun _ _ _ _ _ _ => ⟨sr_b_n _, by rw [hq]; exact ⟨rfl, sr_rel g⟩⟩))
theorem i_vc_canEndBoth {k : Nat} {u : SX} {v : SY} (I : i_Rel k u v) (hk : k + 5 ≤ 2560) (v1 : Int32) (v2 : Int32) (v3 : Int32) (v4 : Int32) : wpX_canEndBoth (fun r u' => wpY_canEndBoth (fun r' v' => r' = r ∧ i_Rel (k + 5) u' v') v v1 v2 v3 v4) u v1 v2 v3 v4 := by
  obtain ⟨f, K, O, L, B, va, ho, dn, tT, tS, f', tu, st, va', ac, ho', rfl, rfl, g⟩ := I
  obtain ⟨l, hC, hl⟩ := sr_ends g B
  unfold wpX_canEndBoth
  dsimp only
  rcases sr_rg v1 with h | ⟨x, hx, e⟩
  · refine sr_x_var_n h _ (br_t rfl ?_)
    unfold wpY_canEndBoth
    dsimp only
    exact br_c (fun _ => ⟨rfl, sr_rel g⟩) (fun z => br_t (sr_32 (h.resolve_left z)) ⟨rfl, sr_rel g⟩)
  · subst e
    rcases sr_rg v3 with h | ⟨y, hy, e⟩
    · refine sr_x_var_y hx _ (br_f (by decide) (sr_x_var_n h _ (br_t rfl ?_)))
      unfold wpY_canEndBoth
      dsimp only
      exact br_f (nI_pos (by omega)) (br_f (nI_nlt (a := 2) (by omega) (by decide)) (br_c (fun _ => ⟨rfl, sr_rel g⟩) (fun z => br_f (sr_n2 (h.resolve_left z)) ⟨rfl, sr_rel g⟩)))
    · subst e
      refine sr_x_var_y hx _ (br_f (by decide) (sr_x_var_y hy _ (br_f (by decide) (sr_xm_ce g hC hl _ hx hy (fun _ _ _ _ _ _ => ?_)))))
      generalize hq : sr_an (sr_eb K O B x y v2 v4) (sr_first K O L B :: l) = q
      cases q
      · exact br_t rfl (sr_ym_ce g hC hl _ hx hy (fun _ _ _ _ _ _ => by rw [hq]; exact ⟨rfl, sr_rel g⟩))
      · exact br_f (by decide) (sr_ym_ce g hC hl _ hx hy (fun _ _ _ _ _ _ => by rw [hq]; exact ⟨rfl, sr_rel g⟩))
theorem i_vc_extreme {k : Nat} {u : SX} {v : SY} (I : i_Rel k u v) (hk : k + 5 ≤ 2560) (v1 : Int32) (v2 : Int32) : wpX_extreme (fun r u' => wpY_extreme (fun r' v' => r' = r ∧ i_Rel (k + 5) u' v') v v1 v2) u v1 v2 := by
  obtain ⟨f, K, O, L, B, va, ho, dn, tT, tS, f', tu, st, va', ac, ho', rfl, rfl, g⟩ := I
  obtain ⟨l, hC, hl⟩ := sr_ends g B
  unfold wpX_extreme wpY_extreme
  dsimp only
  rcases sr_rg v1 with h | ⟨x, hx, e⟩
  · exact sr_x_var_n h _ (br_t rfl (br_c (fun _ => ⟨rfl, sr_rel g⟩) (fun z => br_t (sr_32 (h.resolve_left z)) ⟨rfl, sr_rel g⟩)))
  · subst e
    have a1 : ¬ nI x < 0 := nI_pos (by omega)
    have a2 : ¬ 2 < nI x := nI_nlt (a := 2) (by omega) (by decide)
    refine sr_x_var_y hx _ (br_f (by decide) ?_)
    by_cases h0 : v2 = 0
    · subst h0
      refine br_t rfl (br_f (by decide) (br_f (by decide) ?_))
      exact sr_xm_ex (w := false) g hC hl _ (by omega) (fun _ _ _ _ _ _ => br_f a1 (br_f a2 (br_t rfl (sr_ym_en (w := false) g hC hl _ (by omega) (fun _ _ _ _ _ _ => ⟨rfl, sr_rel g⟩)))))
    · by_cases h1 : v2 = 1
      · subst h1
        refine br_f h0 (br_t rfl (br_f (by decide) (br_t rfl ?_)))
        exact sr_xm_ex (w := true) g hC hl _ (by omega) (fun _ _ _ _ _ _ => br_f a1 (br_f a2 (br_f h0 (br_t rfl (sr_ym_en (w := true) g hC hl _ (by omega) (fun _ _ _ _ _ _ => ⟨rfl, sr_rel g⟩))))))
      · exact br_f h0 (br_f h1 (br_t rfl (br_f a1 (br_f a2 (br_f h0 (br_f h1 ⟨rfl, sr_rel g⟩))))))
theorem i_vc_accumulator {k : Nat} {u : SX} {v : SY} (I : i_Rel k u v) (hk : k + 5 ≤ 2560) (v1 : Int32) (v2 : Int32) : wpX_accumulator (fun r u' => wpY_accumulator (fun r' v' => r' = r ∧ i_Rel (k + 5) u' v') v v1 v2) u v1 v2 := by
  obtain ⟨f, K, O, L, B, va, ho, dn, tT, tS, f', tu, st, va', ac, ho', rfl, rfl, g⟩ := I
  obtain ⟨l, hC, hl⟩ := sr_ends g B
  unfold wpX_accumulator wpY_accumulator
  dsimp only
  rcases sr_rg v1 with h | ⟨x, hx, e⟩
  · exact sr_x_thr_n h _ (br_t rfl (sr_y_thr_n h _ (br_t rfl ⟨rfl, sr_rel g⟩)))
  · subst e
    have e3 : 3 + nI x = nI (3 + x) := nI_add 3 x
    refine sr_x_thr_y hx _ (br_f (by decide) ?_)
    by_cases h0 : v2 = 0
    · subst h0
      refine br_t rfl (br_f (by decide) (br_f (by decide) ?_))
      rw [e3]
      refine sr_xm_ex (w := false) g hC hl _ (by omega) (fun _ _ _ _ _ _ => sr_y_thr_y hx _ (br_f (by decide) (br_t rfl ?_)))
      unfold wY_accumulator_21
      rw [e3]
      exact sr_ym_en (w := false) g hC hl _ (by omega) (fun _ _ _ _ _ _ => ⟨rfl, sr_rel g⟩)
    · by_cases h1 : v2 = 1
      · subst h1
        refine br_f h0 (br_t rfl (br_f (by decide) (br_t rfl ?_)))
        rw [e3]
        refine sr_xm_ex (w := true) g hC hl _ (by omega) (fun _ _ _ _ _ _ => sr_y_thr_y hx _ (br_f (by decide) (br_f h0 (br_t rfl ?_))))
        unfold wY_accumulator_21
        rw [e3]
        exact sr_ym_en (w := true) g hC hl _ (by omega) (fun _ _ _ _ _ _ => ⟨rfl, sr_rel g⟩)
      · exact br_f h0 (br_f h1 (br_t rfl (sr_y_thr_y hx _ (br_f (by decide) (br_f h0 (br_f h1 ⟨rfl, sr_rel g⟩))))))
theorem i_vc_races {k : Nat} {u : SX} {v : SY} (I : i_Rel k u v) (hk : k + 5 ≤ 2560) (v1 : Int32) : wpX_races (fun r u' => wpY_races (fun r' v' => r' = r ∧ i_Rel (k + 5) u' v') v v1) u v1 := by
  obtain ⟨f, K, O, L, B, va, ho, dn, tT, tS, f', tu, st, va', ac, ho', rfl, rfl, g⟩ := I
  obtain ⟨l, hC, hl⟩ := sr_ends g B
  rcases sr_rg v1 with h | ⟨x, hx, e⟩
  · unfold wpX_races
    dsimp only
    refine sr_x_var_n h _ (br_t rfl ?_)
    unfold wpY_races
    dsimp only
    exact br_c (fun _ => ⟨rfl, sr_rel g⟩) (fun z => br_t (sr_32 (h.resolve_left z)) ⟨rfl, sr_rel g⟩)
  · subst e
    refine sr_xm_ra g hC hl _ hx (fun _ _ _ _ _ _ => ?_)
    unfold wpY_races
    dsimp only
    refine br_f (nI_pos (by omega)) (br_f (nI_nlt (a := 2) (by omega) (by decide)) (sr_ym_en (w := false) g hC hl _ (by omega) (fun _ _ _ _ _ _ => sr_ym_en (w := true) g hC hl _ (by omega) (fun _ _ _ _ _ _ => ?_))))
    generalize hq : sr_an (fun q => !decide (sr_vl K O B x q = sr_vl K O B x (sr_first K O L B))) (sr_first K O L B :: l) = q
    cases q
    · refine br_t ?_ ⟨rfl, sr_rel g⟩
      rw [sr_fo_eq _ hq, sr_fo_eq _ hq]
    · refine br_f (fun z => ?_) ⟨rfl, sr_rel g⟩
      have y := sr_fo_ne _ _ _ (Int32.le_refl _) (Int32.le_refl _) hq
      rw [z] at y
      omega
