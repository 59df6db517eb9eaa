/-! step, and what it keeps -/
def sr_VD (k : Nat) (q : Int32) : Prop := (k ≤ 2 → ∃ o, o ≤ 2 ∧ q = nI o) ∧ (4 ≤ k → ∃ o, o ≤ 1 ∧ q = nI o)
theorem sr_gd_L {K O L : Nat → Int32} {t m : Nat} (g : sr_gd K O L) (hm : m ≤ 4) : sr_gd K O (upd L t (nI m)) := by
  refine ⟨fun j hj => ?_, g.2⟩
  by_cases z : j = t
  · subst z; exact ⟨m, hm, pk_us⟩
  · rw [pk_un z]; exact g.1 j hj
theorem sr_gd_KO {K O L : Nat → Int32} {c k : Nat} {q : Int32} (g : sr_gd K O L) (hk : k ≤ 5) (hv : sr_VD k q) : sr_gd (upd K c (nI k)) (upd O c q) L := by
  refine ⟨g.1, fun j hj => ?_⟩
  by_cases z : j = c
  · subst z
    rw [pk_us, pk_us]
    exact ⟨k, hk, rfl, hv.1, hv.2⟩
  · rw [pk_un z, pk_un z]; exact g.2 j hj
theorem sr_bad {j : Nat} (hj : j < 3) : ¬ (nI j < 0 ∨ 3 ≤ nI j) := by
  intro h
  rcases h with h | h
  · exact nI_pos (by omega) h
  · exact nI_ge (b := 3) hj (by decide) h
theorem sr_x_stpn {x q : Int32} (h : x < 0 ∨ 6 ≤ x) (post : Int32 → Prop) (h0 : post 0) : wpX_isStep post x q := by
  have ne : ∀ j, j ≤ 5 → ¬ x = nI j := by
    intro j hj e
    subst e
    rcases h with h | h
    · exact nI_pos (by omega) h
    · exact nI_ge (b := 6) (by omega) (by decide) h
  exact br_f (ne 0 (by omega)) (br_f (ne 1 (by omega)) (br_f (ne 2 (by omega)) (br_t rfl (br_f (ne 4 (by omega)) (br_f (ne 5 (by omega)) (br_t rfl (br_f (ne 3 (by omega)) h0)))))))
theorem sr_x_stp {k : Nat} {q : Int32} (hk : k ≤ 5) (post : Int32 → Prop) (h1 : sr_VD k q → post 1) (h0 : ¬ sr_VD k q → post 0) : wpX_isStep post (nI k) q := by
  unfold wpX_isStep
  refine sr_x_acc hk rfl _ (fun z => br_f (by decide) ?_) (fun z => br_t rfl (sr_x_lck hk rfl _ (fun y => br_f (by decide) ?_) (fun y => br_t rfl (pk_eq k 3 (fun _ => h1 ⟨fun w => by omega, fun w => by omega⟩) (fun w => by omega)))))
  · rcases sr_rg q with h | ⟨j, hj, e⟩
    · refine sr_x_var_n h _ ⟨sr_b_n false, h0 (fun v => ?_)⟩
      obtain ⟨o, ho, e⟩ := v.1 z
      subst e
      exact sr_bad (by omega) h
    · subst e
      exact sr_x_var_y hj _ ⟨sr_b_n true, h1 ⟨fun _ => ⟨j, by omega, rfl⟩, fun w => by omega⟩⟩
  · rcases pk_ix q (n := 2) (by decide) with h | h | ⟨j, hj, e⟩
    · refine br_t h (h0 (fun v => ?_))
      obtain ⟨o, ho, e⟩ := v.2 y
      subst e
      exact nI_pos (by omega) h
    · have nv : ¬ sr_VD k q := fun v => by
        obtain ⟨o, ho, e⟩ := v.2 y
        subst e
        exact nI_ge (b := 2) (by omega) (by decide) h
      exact br_c (fun _ => h0 nv) (fun _ => br_t h (h0 nv))
    · subst e
      exact br_f (nI_pos (by omega)) (br_f (nI_ge (b := 2) hj (by decide)) (h1 ⟨fun w => by omega, fun w => ⟨j, by omega, rfl⟩⟩))
theorem sr_y_47 {K O L B tu st va ac ho : Nat → Int32} {f0 q : Int32} {t k m : Nat} (ht : t < 3) (hm : m ≤ 4) (eL : L t = nI m) (post : Int32 → SY → Prop)
    (h1 : m < 4 → post (nI m) (f0, upd L t (nI (m + 1)), upd K (4 * t + m) (nI k), upd O (4 * t + m) q, B, tu, st, va, ac, ho)) (h0 : 4 ≤ m → post (-2) (f0, L, K, O, B, tu, st, va, ac, ho)) :
    wY_step_47 post (nI t) (nI k) q f0 L K O B tu st va ac ho := by
  have e1 : L (nI t).toNatClampNeg = nI m := by rw [nI_clamp (by omega), eL]
  have e2 : 4 * nI t + L (nI t).toNatClampNeg = nI (4 * t + m) := by rw [e1]; exact sr_ix 4 t m
  have c2 : m < 4 → (4 * nI t + L (nI t).toNatClampNeg).toNatClampNeg = 4 * t + m := fun z => pk_cl _ e2
  have it : vp_in (nI t) 3 := pk_in t 3 ht
  refine ⟨it, pk_lt m 4 (fun z => ⟨it, pk_in _ 12 (by omega) e2, nm_r (e' := upd K (4 * t + m) (nI k)) (by rw [c2 z]) ⟨it, pk_in _ 12 (by omega) e2, nm_r (e' := upd O (4 * t + m) q) (by rw [c2 z]) ⟨it, it, nm_r (e' := upd L t (nI (m + 1))) (by rw [e1, nI_1, nI_clamp (n := t) (by omega)]) ⟨it, ?_⟩⟩⟩⟩) h0 e1⟩
  rw [nI_clamp (n := t) (by omega), pk_us, nI_pred]
  exact h1 z
theorem sr_y_stp {K O L B tu st va ac ho : Nat → Int32} {f0 q : Int32} {t k : Nat} (ht : t < 3) (hk : k ≤ 5) (post : Int32 → SY → Prop)
    (h1 : sr_VD k q → wY_step_47 post (nI t) (nI k) q f0 L K O B tu st va ac ho) (h0 : ¬ sr_VD k q → post (-1) (f0, L, K, O, B, tu, st, va, ac, ho)) :
    wpY_step post (f0, L, K, O, B, tu, st, va, ac, ho) (nI t) (nI k) q := by
  have s31 : (k ≤ 2 → ∃ o, o ≤ 2 ∧ q = nI o) → wY_step_31 post (nI t) (nI k) q f0 L K O B tu st va ac ho := by
    intro v
    refine pk_lt k 4 (fun y => h1 ⟨v, fun w => by omega⟩) (fun y => br_c (fun z => h1 ⟨v, fun _ => ⟨0, by omega, z⟩⟩) (fun z => br_c (fun z2 => h1 ⟨v, fun _ => ⟨1, by omega, z2⟩⟩) (fun z2 => h0 (fun w => ?_))))
    obtain ⟨o, ho, e⟩ := w.2 y
    rcases (by omega : o = 0 ∨ o = 1) with x | x <;> subst x
    · exact z e
    · exact z2 e
  unfold wpY_step
  dsimp only
  refine sr_y_thr_y ht _ (br_f (by decide) (br_f (nI_pos (by omega)) (br_f (nI_nlt (a := 5) (by omega) (by decide)) (pk_lt 2 k (fun z => s31 (fun w => by omega)) (fun z => ?_)))))
  rcases sr_rg q with h | ⟨j, hj, e⟩
  · have nv : ¬ sr_VD k q := fun v => by
      obtain ⟨o, ho, e⟩ := v.1 z
      subst e
      exact sr_bad (by omega) h
    exact br_c (fun _ => h0 nv) (fun y => br_t (sr_32 (h.resolve_left y)) (h0 nv))
  · subst e
    exact br_f (nI_pos (by omega)) (br_f (nI_nlt (a := 2) (by omega) (by decide)) (s31 (fun _ => ⟨j, by omega, rfl⟩)))
theorem sr_y_stpn {K O L B tu st va ac ho : Nat → Int32} {f0 x q : Int32} {t : Nat} (ht : t < 3) (h : x < 0 ∨ 6 ≤ x) (post : Int32 → SY → Prop)
    (h0 : post (-1) (f0, L, K, O, B, tu, st, va, ac, ho)) : wpY_step post (f0, L, K, O, B, tu, st, va, ac, ho) (nI t) x q := by
  have t5 : (5 : Int32).toInt = 5 := by decide
  have t6 : (6 : Int32).toInt = 6 := by decide
  unfold wpY_step
  dsimp only
  refine sr_y_thr_y ht _ (br_f (by decide) (br_c (fun _ => h0) (fun z => br_t ?_ h0)))
  have y := h.resolve_left z
  rw [Int32.le_iff_toInt_le, t6] at y
  rw [Int32.lt_iff_toInt_lt, t5]
  omega
theorem sr_x_stpm {K O L B va ho dn tT tS : Nat → Int32} {f0 q : Int32} {t k m : Nat} (ht : t < 3) (hk : k ≤ 5) (hm : m ≤ 4) (eL : L t = nI m) (post : Int32 → SX → Prop)
    (h2 : sr_VD k q → m < 4 → post (nI m) (f0, upd K (4 * t + m) (nI k), upd O (4 * t + m) q, upd L t (nI (m + 1)), B, va, ho, dn, tT, tS)) (h1 : sr_VD k q → 4 ≤ m → post (-2) (f0, K, O, L, B, va, ho, dn, tT, tS)) (h0 : ¬ sr_VD k q → post (-1) (f0, K, O, L, B, va, ho, dn, tT, tS)) :
    wpX_step post (f0, K, O, L, B, va, ho, dn, tT, tS) (nI t) (nI k) q := by
  have e1 : L (nI t).toNatClampNeg = nI m := by rw [nI_clamp (by omega), eL]
  have e2 : nI t * 4 + nI m = nI (4 * t + m) := by rw [Nat.mul_comm]; exact sr_ix t 4 m
  have c2 : m < 4 → (nI t * 4 + nI m).toNatClampNeg = 4 * t + m := fun z => pk_cl _ e2
  have it : vp_in (nI t) 3 := pk_in t 3 ht
  unfold wpX_step
  dsimp only
  refine sr_x_thr_y ht _ (br_f (by decide) (sr_x_stp hk _ (fun v => br_f (by decide) ⟨it, nm_r e1 (pk_lt m 4 (fun z => ⟨pk_in _ 12 (by omega) e2, nm_r (e' := upd K (4 * t + m) (nI k)) (by rw [c2 z]) ⟨pk_in _ 12 (by omega) e2, nm_r (e' := upd O (4 * t + m) q) (by rw [c2 z]) ⟨it, nm_r (e' := upd L t (nI (m + 1))) (by rw [nI_1, nI_clamp (n := t) (by omega)]) (h2 v z)⟩⟩⟩) (h1 v))⟩) (fun v => br_t rfl (h0 v))))
theorem sr_x_stpo {K O L B va ho dn tT tS : Nat → Int32} {f0 x q : Int32} {t : Nat} (ht : t < 3) (h : x < 0 ∨ 6 ≤ x) (post : Int32 → SX → Prop) (h0 : post (-1) (f0, K, O, L, B, va, ho, dn, tT, tS)) :
    wpX_step post (f0, K, O, L, B, va, ho, dn, tT, tS) (nI t) x q := by
  unfold wpX_step
  dsimp only
  exact sr_x_thr_y ht _ (br_f (by decide) (sr_x_stpn h _ (br_t rfl h0)))
