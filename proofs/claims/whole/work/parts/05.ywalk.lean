/-! the reference's walk: replay, extend, first, next -/
def sr_YM (s : sr_S) (va ac ho : Nat → Int32) : Prop := (∀ c, c < 6 → va c = s.1 c) ∧ (∀ t, t < 3 → ac t = nI (s.2.1 t)) ∧ (∀ l, l < 2 → ho l = s.2.2 l)
def sr_YT (K O B : Nat → Int32) (p : Nat → Nat) (n : Nat) (st : Nat → Int32) : Prop := ∀ d, d < n → st d = nI (4 * p d + (sr_run K O B p d).2.1 (p d))
def sr_YI (K O B : Nat → Int32) (p : Nat → Nat) (n : Nat) (tu st va ac ho : Nat → Int32) : Prop := (∀ d, d < n → tu d = nI (p d)) ∧ sr_YT K O B p n st ∧ sr_YM (sr_run K O B p n) va ac ho
theorem sr_upm {w i : Nat} {va v : Nat → Int32} {x y : Int32} (h : ∀ c, c < w → va c = v c) (e : x = y) : ∀ c, c < w → upd va i x c = upd v i y c := by
  intro c hc
  by_cases z : c = i
  · subst z; rw [pk_us, pk_us, e]
  · rw [pk_un z, pk_un z, h c hc]
theorem sr_upid {w i : Nat} {va v : Nat → Int32} {x : Int32} (h : ∀ c, c < w → va c = v c) (e : v i = x) : ∀ c, c < w → upd va i x c = v c := by
  intro c hc
  by_cases z : c = i
  · subst z; rw [pk_us, e]
  · rw [pk_un z, h c hc]
theorem sr_and1 {o : Nat} (h : o ≤ 1) : nI o &&& 1 = nI o := by
  rcases (by omega : o = 0 ∨ o = 1) with z | z <;> subst z <;> decide
theorem sr_y_can {K O L B va ac ho tu st : Nat → Int32} {f0 : Int32} {s : sr_S} {t : Nat} (g : sr_gd K O L) (ht : t < 3) (hY : sr_YM s va ac ho) (hl : s.2.1 t ≤ (L t).toNatClampNeg) (hg : sr_hg s.2.2)
    (post : Int32 → Prop) (h1 : sr_ab K O L s t = true → post 1) (h0 : sr_ab K O L s t = false → post 0) : wpY_can post (f0, L, K, O, B, tu, st, va, ac, ho) (nI t) := by
  obtain ⟨m, hm, eL⟩ := g.1 t ht
  have eL' : (L t).toNatClampNeg = m := by rw [eL]; exact nI_clamp (by omega)
  have e2 : ac (nI t).toNatClampNeg = nI (s.2.1 t) := by rw [nI_clamp (by omega), hY.2.1 t ht]
  have e3 : L (nI t).toNatClampNeg = nI m := by rw [nI_clamp (by omega), eL]
  have e4 : 4 * nI t + ac (nI t).toNatClampNeg = nI (4 * t + s.2.1 t) := by rw [e2]; exact sr_ix 4 t _
  refine ⟨pk_in t 3 ht, pk_in t 3 ht, ?_⟩
  refine pk_lt (s.2.1 t) m (fun hlt => ⟨pk_in t 3 ht, nm_r e4 ?_⟩) (fun hge => h0 (sr_ab_0 (by omega))) e2 e3
  have hc : 4 * t + s.2.1 t < 12 := by omega
  obtain ⟨k, hk, eK, _, hO⟩ := g.2 _ hc
  have e5 : K (nI (4 * t + s.2.1 t)).toNatClampNeg = nI k := by rw [nI_clamp (by omega), eK]
  refine ⟨pk_in _ _ hc, pk_eq k 4 (fun k4 => ⟨pk_in _ _ hc, ?_⟩) (fun k4 => h1 (sr_ab_1 (by omega) ?_)) e5⟩
  · obtain ⟨o, ho1, eO⟩ := hO (by omega)
    have e7 : O (nI (4 * t + s.2.1 t)).toNatClampNeg &&& 1 = nI o := by rw [nI_clamp (by omega), eO]; exact sr_and1 ho1
    have e8 : ho (O (nI (4 * t + s.2.1 t)).toNatClampNeg &&& 1).toNatClampNeg = s.2.2 (O (4 * t + s.2.1 t)).toNatClampNeg := by
      rw [pk_cl _ e7, eO, nI_clamp (by omega)]
      exact hY.2.2 o (by omega)
    have k4' : K (4 * t + s.2.1 t) = 4 := by rw [eK, k4]; rfl
    refine ⟨pk_in _ _ (by omega) e7, ?_⟩
    rw [e8]
    rcases hg (O (4 * t + s.2.1 t)).toNatClampNeg with z | ⟨j, hj, z⟩
    · exact br_f (by rw [z]; decide) (h1 (sr_ab_2 (by omega) z))
    · refine br_t (by rw [z]; exact nI_pos' (by omega)) (h0 (sr_ab_3 k4' (fun y => ?_)))
      have h1 := nI_pos (n := j) (by omega)
      rw [← z, y] at h1
      exact h1 (by decide)
  · rw [eK]
    intro z
    exact k4 ((nI_eq (b := 4) (by omega) (by omega)).mp z)
theorem sr_y_153 {K O L B va ac ho tu st : Nat → Int32} {f0 : Int32} {s : sr_S} {t : Nat} (ht : t < 3) (hv : ∀ c, c < 6 → va c = (sr_stp K O s t).1 c) (hh : ∀ l, l < 2 → ho l = (sr_stp K O s t).2.2 l) (ha : ∀ t, t < 3 → ac t = nI (s.2.1 t)) (post : SY → Prop)
    (H : ∀ va' ac' ho', sr_YM (sr_stp K O s t) va' ac' ho' → post (f0, L, K, O, B, tu, st, va', ac', ho')) : wY_carryOut_153 post (nI t) f0 L K O B tu st va ac ho := by
  refine ⟨pk_in t 3 ht, pk_in t 3 ht, nm_r (e' := upd ac t (nI (s.2.1 t + 1))) (by rw [nI_clamp (n := t) (by omega), ha t ht, nI_1]) (H _ _ _ ⟨hv, ?_, hh⟩)⟩
  intro j hj
  show upd ac t (nI (s.2.1 t + 1)) j = nI (sr_pu s.2.1 t (s.2.1 t + 1) j)
  by_cases z : j = t
  · subst z; rw [pk_us, sr_pus]
  · rw [pk_un z, sr_pun z, ha j hj]
theorem sr_y_carry {K O L B va ac ho tu st : Nat → Int32} {f0 : Int32} {s : sr_S} {t : Nat} (g : sr_gd K O L) (ht : t < 3) (hY : sr_YM s va ac ho) (hl : s.2.1 t < (L t).toNatClampNeg) (post : SY → Prop)
    (H : ∀ va' ac' ho', sr_YM (sr_stp K O s t) va' ac' ho' → post (f0, L, K, O, B, tu, st, va', ac', ho')) : wpY_carryOut post (f0, L, K, O, B, tu, st, va, ac, ho) (nI t) := by
  obtain ⟨m, hm, eL⟩ := g.1 t ht
  have eL' : (L t).toNatClampNeg = m := by rw [eL]; exact nI_clamp (by omega)
  obtain ⟨hv, ha, hh⟩ := hY
  have hc : 4 * t + s.2.1 t < 12 := by omega
  obtain ⟨k, hk, eK, hO2, hO4⟩ := g.2 _ hc
  have e4 : 4 * nI t + ac (nI t).toNatClampNeg = nI (4 * t + s.2.1 t) := by rw [nI_clamp (by omega), ha t ht]; exact sr_ix 4 t _
  have e5 : K (nI (4 * t + s.2.1 t)).toNatClampNeg = nI k := by rw [nI_clamp (by omega), eK]
  have e6 : O (nI (4 * t + s.2.1 t)).toNatClampNeg = O (4 * t + s.2.1 t) := by rw [nI_clamp (by omega)]
  have e7 : 3 + nI t = nI (3 + t) := nI_add 3 t
  have c7 : (3 + nI t).toNatClampNeg = 3 + t := pk_cl _ e7
  have i7 : vp_in (3 + nI t) 6 := pk_in _ _ (by omega) e7
  have hv3 := hv (3 + t) (by omega)
  have s1 : (sr_stp K O s t).1 = sr_vst (nI k) (O (4 * t + s.2.1 t)) t s.1 := by rw [← eK]; rfl
  have s2 : (sr_stp K O s t).2.2 = sr_hst (nI k) (O (4 * t + s.2.1 t)) t s.2.2 := by rw [← eK]; rfl
  refine ⟨pk_in t 3 ht, nm_r e4 ⟨pk_in _ _ hc, nm_r e5 ⟨pk_in _ _ hc, nm_r e6 ⟨i7, nm_r (e' := va (3 + t)) (by rw [c7]) ?_⟩⟩⟩⟩
  rcases (by omega : k = 0 ∨ k = 1 ∨ k = 2 ∨ k = 3 ∨ k = 4 ∨ k = 5) with z | z | z | z | z | z
  · subst z
    obtain ⟨o, ho2, eO⟩ := hO2 (by omega)
    rw [eO] at s1 s2 ⊢
    have hvo := hv o (by omega)
    rw [sr_v0 (by omega)] at s1
    rw [sr_h03 (by omega)] at s2
    refine br_f (by decide) ⟨pk_in o 6 (by omega), nm_r (e' := va o) (by rw [nI_clamp (n := o) (by omega)]) (br_f (by decide) ⟨i7, nm_r (e' := upd va (3 + t) (va o)) (by rw [c7]) (br_t (by decide) ⟨pk_in o 6 (by omega), nm_r (e' := upd (upd va (3 + t) (va o)) o (va o)) (by rw [nI_clamp (n := o) (by omega)]) (sr_y_153 ht ?_ ?_ ha post H)⟩)⟩)⟩
    · rw [s1]; exact sr_upid (sr_upm hv hvo) (by rw [pk_un (by omega)]; exact hvo.symm)
    · rw [s2]; exact hh
  · subst z
    obtain ⟨o, ho2, eO⟩ := hO2 (by omega)
    rw [eO] at s1 s2 ⊢
    have hvo := hv o (by omega)
    rw [sr_v1 (by omega)] at s1
    rw [sr_h03 (by omega)] at s2
    refine br_f (by decide) ⟨pk_in o 6 (by omega), nm_r (e' := va o) (by rw [nI_clamp (n := o) (by omega)]) (br_t (by decide) ⟨i7, nm_r (e' := upd va (3 + t) (va (3 + t))) (by rw [c7]) (br_f (by decide) ⟨pk_in o 6 (by omega), nm_r (e' := upd (upd va (3 + t) (va (3 + t))) o (va (3 + t))) (by rw [nI_clamp (n := o) (by omega)]) (sr_y_153 ht ?_ ?_ ha post H)⟩)⟩)⟩
    · rw [s1]; exact sr_upm (sr_upid hv hv3.symm) hv3
    · rw [s2]; exact hh
  · subst z
    obtain ⟨o, ho2, eO⟩ := hO2 (by omega)
    rw [eO] at s1 s2 ⊢
    have hvo := hv o (by omega)
    rw [sr_v2 (by omega)] at s1
    rw [sr_h03 (by omega)] at s2
    refine br_f (by decide) ⟨pk_in o 6 (by omega), nm_r (e' := va o) (by rw [nI_clamp (n := o) (by omega)]) (br_f (by decide) ⟨i7, nm_r (e' := upd va (3 + t) (va o)) (by rw [c7]) (br_f (by decide) ⟨pk_in o 6 (by omega), nm_r (e' := upd (upd va (3 + t) (va o)) o (va (3 + t))) (by rw [nI_clamp (n := o) (by omega)]) (sr_y_153 ht ?_ ?_ ha post H)⟩)⟩)⟩
    · rw [s1]; exact sr_upm (sr_upm hv hvo) hv3
    · rw [s2]; exact hh
  · subst z
    rw [sr_v3] at s1
    rw [sr_h03 (by omega)] at s2
    refine br_t (by decide) (br_t (by decide) ⟨i7, nm_r (e' := upd va (3 + t) (va (3 + t) + O (4 * t + s.2.1 t))) (by rw [c7]) (sr_y_153 ht ?_ ?_ ha post H)⟩)
    · rw [s1]; exact sr_upm hv (by rw [hv3])
    · rw [s2]; exact hh
  · subst z
    obtain ⟨o, ho1, eO⟩ := hO4 (by omega)
    rw [eO] at s1 s2 ⊢
    rw [sr_v45 (Or.inl rfl)] at s1
    rw [sr_h4 (by omega)] at s2
    have ea : (nI o &&& 1) = nI o := sr_and1 ho1
    have ia : vp_in (nI o &&& 1) 2 := pk_in _ _ (by omega) ea
    have ca : (nI o &&& 1).toNatClampNeg = o := pk_cl _ ea
    refine br_t (by decide) (br_f (by decide) (br_t (by decide) ⟨ia, nm_r (e' := upd ho o (nI t)) (by rw [ca]) (sr_y_153 ht ?_ ?_ ha post H)⟩))
    · rw [s1]; exact hv
    · rw [s2]; exact sr_upm hh rfl
  · subst z
    obtain ⟨o, ho1, eO⟩ := hO4 (by omega)
    rw [eO] at s1 s2 ⊢
    rw [sr_v45 (Or.inr rfl)] at s1
    rw [sr_h5 (by omega)] at s2
    have ea : (nI o &&& 1) = nI o := sr_and1 ho1
    have ia : vp_in (nI o &&& 1) 2 := pk_in _ _ (by omega) ea
    have ca : (nI o &&& 1).toNatClampNeg = o := pk_cl _ ea
    have hho := hh o (by omega)
    refine br_t (by decide) (br_f (by decide) (br_f (by decide) ⟨ia, br_c (fun z => ⟨ia, nm_r (e' := upd ho o (-1)) (by rw [ca]) (sr_y_153 ht ?_ ?_ ha post H)⟩) (fun z => sr_y_153 ht ?_ ?_ ha post H)⟩))
    · rw [s1]; exact hv
    · rw [ca, hho] at z
      rw [s2, if_pos z]; exact sr_upm hh rfl
    · rw [s1]; exact hv
    · rw [ca, hho] at z
      rw [s2, if_neg z]; exact hh
theorem sr_y_r62 {K O L B tu : Nat → Int32} {f0 : Int32} {p : Nat → Nat} {n : Nat} (g : sr_gd K O L) (hn : n ≤ 12) (ok : sr_ok K O L B p n) (htu : ∀ d, d < n → tu d = nI (p d)) (post : SY → Prop)
    (H : ∀ st' va' ac' ho', sr_YI K O B p n tu st' va' ac' ho' → post (f0, L, K, O, B, tu, st', va', ac', ho')) :
    ∀ (r i : Nat) (st va ac ho : Nat → Int32), i + r = n → sr_YT K O B p i st → sr_YM (sr_run K O B p i) va ac ho → wY_replay_62 post (nI n) (r + 1) (nI i) f0 L K O B tu st va ac ho := by
  intro r
  induction r with
  | zero =>
    intro i st va ac ho hi hT hM
    have z : i = n := by omega
    subst z
    exact br_t (Int32.le_refl _) (H _ _ _ _ ⟨htu, hT, hM⟩)
  | succ r ih =>
    intro i st va ac ho hi hT hM
    obtain ⟨hp, hA⟩ := ok i (by omega)
    have et : tu (nI i).toNatClampNeg = nI (p i) := by rw [nI_clamp (by omega), htu i (by omega)]
    have ii : vp_in (nI i) 12 := pk_in i 12 (by omega)
    refine br_f (nI_ge (by omega) (by omega)) ?_
    rw [et]
    refine ⟨ii, ii, pk_in _ 3 hp, ii, nm_r (e' := upd st i (nI (4 * p i + (sr_run K O B p i).2.1 (p i)))) ?_ ⟨ii, sr_y_carry g hp hM (sr_ab_lt hA) _ (fun va' ac' ho' hM' => nm_r (nI_1 i) (ih (i + 1) _ va' ac' ho' (by omega) ?_ hM'))⟩⟩
    · rw [nI_clamp (n := i) (by omega), nI_clamp (n := p i) (by omega), hM.2.1 _ hp]
      exact congrArg (upd st i) (sr_ix 4 (p i) _)
    · intro d hd
      by_cases z : d = i
      · subst z; exact pk_us
      · rw [pk_un z]; exact hT d (by omega)
theorem sr_y_r28 {K O L B tu st va ac ho : Nat → Int32} {x1 f0 : Int32} (post : SY → Prop)
    (H : ∀ ac' : Nat → Int32, (∀ c, c < 3 → ac' c = 0) → ∃ N, wY_replay_62 post x1 N 0 f0 L K O B tu st va ac' (upd (upd ho 0 (-1)) 1 (-1))) :
    ∃ N, wY_replay_28 post x1 f0 N 0 L K O B tu st va ac ho := by
  refine loop_0 (fun f i (s : Nat → Int32) => wY_replay_28 post x1 f0 f (nI i) L K O B tu st va s ho) (fun i s => ∀ j, j < i → s j = 0) 3 _ (fun j hj => absurd hj (Nat.not_lt_zero j)) ?_ ?_
  · intro f s h
    exact br_t (by decide) (nm_e (nm_e (H s h)))
  · intro f i s hi h ih
    refine br_f (nI_ge (b := 3) (by omega) (by decide)) ⟨pk_in i 3 (by omega), nm_r (e' := upd s i 0) (by rw [nI_clamp (n := i) (by omega)]) (nm_r (nI_1 i) (ih _ ?_))⟩
    intro j hj
    by_cases z : j = i
    · subst z; exact pk_us
    · rw [pk_un z]; exact h j (by omega)
theorem sr_y_r2 {K O L B tu st va ac ho : Nat → Int32} {x1 f0 : Int32} (post : SY → Prop)
    (H : ∀ va' : Nat → Int32, (∀ c, c < 6 → va' c = B c) → ∃ N, wY_replay_28 post x1 f0 N 0 L K O B tu st va' ac ho) :
    ∃ N, wY_replay_2 post x1 f0 N 0 L K O B tu st va ac ho := by
  refine loop_0 (fun f i (s : Nat → Int32) => wY_replay_2 post x1 f0 f (nI i) L K O B tu st s ac ho) (fun i s => ∀ j, j < i → s j = B j) 6 _ (fun j hj => absurd hj (Nat.not_lt_zero j)) ?_ ?_
  · intro f s h
    exact br_t (by decide) (H s h)
  · intro f i s hi h ih
    refine br_f (nI_ge (b := 6) (by omega) (by decide)) ⟨pk_in i 6 (by omega), pk_in i 6 (by omega), nm_r (e' := upd s i (B i)) (by rw [nI_clamp (n := i) (by omega)]) (nm_r (nI_1 i) (ih _ ?_))⟩
    intro j hj
    by_cases z : j = i
    · subst z; exact pk_us
    · rw [pk_un z]; exact h j (by omega)
theorem sr_y_replay {K O L B tu st va ac ho : Nat → Int32} {f0 : Int32} {p : Nat → Nat} {n : Nat} (g : sr_gd K O L) (hn : n ≤ 12) (ok : sr_ok K O L B p n) (htu : ∀ d, d < n → tu d = nI (p d)) (post : SY → Prop)
    (H : ∀ st' va' ac' ho', sr_YI K O B p n tu st' va' ac' ho' → post (f0, L, K, O, B, tu, st', va', ac', ho')) : wpY_replay post (f0, L, K, O, B, tu, st, va, ac, ho) (nI n) := by
  refine sr_y_r2 post (fun va' a => sr_y_r28 post (fun ac' b => ⟨n + 1, sr_y_r62 g hn ok htu post H n 0 _ _ _ _ (by omega) (fun d hd => absurd hd (Nat.not_lt_zero d)) ⟨a, b, ?_⟩⟩))
  intro l hl
  rcases (by omega : l = 0 ∨ l = 1) with z | z <;> subst z <;> rfl
theorem sr_y_ext {K O L B : Nat → Int32} (g : sr_gd K O L) (post : SY → Prop) : ∀ (F n t : Nat) (p : Nat → Nat) (tu st va ac ho : Nat → Int32), n ≤ 12 → t ≤ 3 → 4 * (12 - n) + (3 - t) < F → sr_ok K O L B p n → sr_YI K O B p n tu st va ac ho →
    sr_fa (sr_A K O L B p n) 0 = sr_fa (sr_A K O L B p n) t →
    (∀ tu' st' va' ac' ho', sr_YI K O B (sr_ext K O L B (12 - n) p n).1 (sr_ext K O L B (12 - n) p n).2 tu' st' va' ac' ho' → post (nI (sr_ext K O L B (12 - n) p n).2, L, K, O, B, tu', st', va', ac', ho')) →
    wY_extend_2 post F (nI t) (nI n) L K O B tu st va ac ho := by
  intro F
  induction F with
  | zero => intro n t p tu st va ac ho _ _ h; omega
  | succ F ih =>
    intro n t p tu st va ac ho hn ht hF ok hY hfa H
    by_cases n12 : n = 12
    · subst n12
      have h2 := H _ _ _ _ _ hY
      exact br_c (fun _ => h2) (fun _ => br_t (by decide) h2)
    · obtain ⟨f, hf⟩ : ∃ f, 12 - n = f + 1 := ⟨11 - n, by omega⟩
      have hf' : 12 - (n + 1) = f := by omega
      rw [hf] at H
      by_cases t3 : t = 3
      · subst t3
        rw [sr_fa_ge (l := 3) (by omega)] at hfa
        have e : sr_ext K O L B (f + 1) p n = (p, n) := if_neg (by omega)
        rw [e] at H
        exact br_t (by decide) (H _ _ _ _ _ hY)
      · refine br_f (nI_ge (b := 3) (by omega) (by decide)) (br_f (nI_ge (b := 12) (by omega) (by decide)) (sr_y_can g (by omega) hY.2.2 (sr_at_le ok t) (sr_run_h ok) _ (fun hA => ?_) (fun hA => ?_)))
        · have hA' : sr_A K O L B p n t = true := hA
          rw [sr_fa_t (by omega) hA'] at hfa
          have e : sr_ext K O L B (f + 1) p n = sr_ext K O L B f (sr_pu p n (sr_fa (sr_A K O L B p n) 0)) (n + 1) := if_pos (by omega)
          rw [e, hfa] at H
          have er : sr_run K O B (sr_pu p n t) (n + 1) = sr_stp K O (sr_run K O B p n) t := by
            show sr_stp K O (sr_run K O B (sr_pu p n t) n) (sr_pu p n t n) = _
            rw [sr_run_pu K O B (Nat.le_refl n), sr_pus]
          refine br_f (by decide) ⟨pk_in n 12 (by omega), nm_r (e' := upd tu n (nI t)) (by rw [nI_clamp (n := n) (by omega)]) ⟨pk_in t 3 (by omega), pk_in n 12 (by omega), nm_r (e' := upd st n (nI (4 * t + (sr_run K O B p n).2.1 t))) ?_ (nm_r (nI_1 n) (sr_y_carry g (by omega) hY.2.2 (sr_ab_lt hA) _ (fun va' ac' ho' hM => ?_)))⟩⟩
          · rw [nI_clamp (n := n) (by omega), nI_clamp (n := t) (by omega), hY.2.2.2.1 t (by omega)]
            exact congrArg (upd st n) (sr_ix 4 t _)
          · refine ih (n + 1) 0 (sr_pu p n t) _ _ va' ac' ho' (by omega) (by omega) (by omega) (sr_ok_pu ok (by omega) hA') ⟨?_, ?_, ?_⟩ rfl (by rw [hf']; exact H)
            · intro d hd
              by_cases z : d = n
              · subst z; rw [pk_us, sr_pus]
              · rw [pk_un z, sr_pun z]; exact hY.1 d (by omega)
            · intro d hd
              by_cases z : d = n
              · subst z; rw [pk_us, sr_pus, sr_run_pu K O B (Nat.le_refl d)]
              · rw [pk_un z, sr_pun z, sr_run_pu K O B (by omega)]; exact hY.2.1 d (by omega)
            · rw [er]; exact hM
        · have hA' : sr_A K O L B p n t = false := hA
          rw [sr_fa_f (by omega) hA'] at hfa
          exact br_t rfl (nm_r (nI_1 t) (ih n (t + 1) p tu st va ac ho hn (by omega) (by omega) ok hY hfa (by rw [hf]; exact H)))
theorem sr_y_extend {K O L B tu st va ac ho : Nat → Int32} (g : sr_gd K O L) (post : SY → Prop) {n : Nat} {p : Nat → Nat} (hn : n ≤ 12) (ok : sr_ok K O L B p n) (hY : sr_YI K O B p n tu st va ac ho)
    (H : ∀ tu' st' va' ac' ho', sr_YI K O B (sr_ext K O L B (12 - n) p n).1 (sr_ext K O L B (12 - n) p n).2 tu' st' va' ac' ho' → post (nI (sr_ext K O L B (12 - n) p n).2, L, K, O, B, tu', st', va', ac', ho')) :
    wpY_extend post (nI n, L, K, O, B, tu, st, va, ac, ho) :=
  ⟨4 * (12 - n) + 3 + 1, sr_y_ext g post _ n 0 p tu st va ac ho hn (by omega) (by omega) ok hY rfl H⟩
theorem sr_y_first {K O L B tu st va ac ho : Nat → Int32} {f0 : Int32} (g : sr_gd K O L) (post : SY → Prop)
    (H : ∀ tu' st' va' ac' ho', sr_YI K O B (sr_first K O L B).1 (sr_first K O L B).2 tu' st' va' ac' ho' → post (nI (sr_first K O L B).2, L, K, O, B, tu', st', va', ac', ho')) :
    wpY_first post (f0, L, K, O, B, tu, st, va, ac, ho) := by
  refine sr_y_replay (n := 0) (p := fun _ => 0) g (by omega) (fun d hd => absurd hd (Nat.not_lt_zero d)) (fun d hd => absurd hd (Nat.not_lt_zero d)) _ (fun st' va' ac' ho' hY => ?_)
  exact sr_y_extend (n := 0) (p := fun _ => 0) g _ (by omega) (fun d hd => absurd hd (Nat.not_lt_zero d)) hY H
theorem sr_y_next25 {K O L B tu st va ac ho : Nat → Int32} {f0 : Int32} (g : sr_gd K O L) {p : Nat → Nat} {d : Nat} (hd : d ≤ 11) (ok : sr_ok K O L B p d) (hY : sr_YI K O B p d tu st va ac ho) (post : Int32 → SY → Prop)
    (J : Int32 → Int32 → (Nat → Int32) → (Nat → Int32) → (Nat → Int32) → (Nat → Int32) → (Nat → Int32) → (Nat → Int32) → (Nat → Int32) → (Nat → Int32) → (Nat → Int32) → Prop) :
    ∀ (r l : Nat), l + r = 3 →
    (sr_fa (sr_A K O L B p d) l < 3 → ∀ s, s = sr_ext K O L B (11 - d) (sr_pu p d (sr_fa (sr_A K O L B p d) l)) (d + 1) → ∀ tu' st' va' ac' ho', sr_YI K O B s.1 s.2 tu' st' va' ac' ho' → post 1 (nI s.2, L, K, O, B, tu', st', va', ac', ho')) →
    (¬ sr_fa (sr_A K O L B p d) l < 3 → J (nI d - 1) f0 L K O B tu st va ac ho) →
    wY_next_25 post J (nI d) f0 L K O B tu st va ac ho (r + 1) (nI l) := by
  intro r
  induction r with
  | zero =>
    intro l hl h1 h0
    have e : sr_fa (sr_A K O L B p d) l = 3 := sr_fa_ge (by omega)
    exact br_t (nI_le (a := 3) (by omega) (by omega)) (nm_r (sr_m1 _) (h0 (by omega)))
  | succ r ih =>
    intro l hl h1 h0
    refine br_f (nI_ge (b := 3) (by omega) (by decide)) (sr_y_can g (by omega) hY.2.2 (sr_at_le ok l) (sr_run_h ok) _ (fun hA => ?_) (fun hA => ?_))
    · have hA' : sr_A K O L B p d l = true := hA
      rw [sr_fa_t (by omega) hA'] at h1
      have ok' := sr_ok_pu ok (by omega) hA'
      have e3 : 12 - (d + 1) = 11 - d := by omega
      refine br_f (by decide) ⟨pk_in d 12 (by omega), nm_r (e' := upd tu d (nI l)) (by rw [nI_clamp (n := d) (by omega)]) (nm_r (nI_1 d) (sr_y_replay g (by omega) ok' ?_ _ (fun st' va' ac' ho' hY' => sr_y_extend g _ (by omega) ok' hY' ?_)))⟩
      · intro j hj
        by_cases z : j = d
        · subst z; rw [pk_us, sr_pus]
        · rw [pk_un z, sr_pun z]; exact hY.1 j (by omega)
      · rw [e3]; exact h1 (by omega) _ rfl
    · have hA' : sr_A K O L B p d l = false := hA
      rw [sr_fa_f (by omega) hA'] at h1 h0
      exact br_t rfl (nm_r (nI_1 l) (ih (l + 1) (by omega) h1 h0))
theorem sr_y_next7 {K O L B tu : Nat → Int32} (g : sr_gd K O L) {p : Nat → Nat} {n : Nat} (hn : n ≤ 12) (ok : sr_ok K O L B p n) (htu : ∀ d, d < n → tu d = nI (p d)) (post : Int32 → SY → Prop) (f0 : Int32) :
    ∀ (d : Nat) (x1 : Int32) (st va ac ho : Nat → Int32), d ≤ n → x1 = nI d - 1 →
    (sr_nx K O L B p d = none → ∀ st' va' ac' ho', post 0 (f0, L, K, O, B, tu, st', va', ac', ho')) →
    (∀ s, sr_nx K O L B p d = some s → ∀ tu' st' va' ac' ho', sr_YI K O B s.1 s.2 tu' st' va' ac' ho' → post 1 (nI s.2, L, K, O, B, tu', st', va', ac', ho')) →
    wY_next_7 post (d + 1) x1 f0 L K O B tu st va ac ho := by
  intro d
  induction d with
  | zero =>
    intro x1 st va ac ho _ e h0 h1
    subst e
    exact br_t (by decide) (h0 rfl _ _ _ _)
  | succ d ih =>
    intro x1 st va ac ho hd e h0 h1
    rw [nI_pred] at e
    subst e
    obtain ⟨hp, hA⟩ := ok d (by omega)
    have okd : sr_ok K O L B p d := sr_ok_le ok (by omega)
    have e1 : tu (nI d).toNatClampNeg + 1 = nI (p d + 1) := by
      rw [nI_clamp (by omega), htu d (by omega), nI_1]
    refine br_f (nI_pos (by omega)) (sr_y_replay g (by omega) okd (fun j hj => htu j (by omega)) _ (fun st' va' ac' ho' hY => ⟨pk_in d 12 (by omega), nm_r e1 ⟨3 - (p d + 1) + 1, sr_y_next25 g (by omega) okd hY post _ _ (p d + 1) (by omega) (fun c => ?_) (fun c => ?_)⟩⟩))
    · have e2 : sr_nx K O L B p (d + 1) = some (sr_ext K O L B (11 - d) (sr_pu p d (sr_fa (sr_A K O L B p d) (p d + 1))) (d + 1)) := if_pos c
      intro s es
      exact h1 s (by rw [e2, es])
    · have e2 : sr_nx K O L B p (d + 1) = sr_nx K O L B p d := if_neg c
      rw [e2] at h0 h1
      exact ih _ _ _ _ _ (by omega) rfl h0 h1
theorem sr_y_next {K O L B tu st va ac ho : Nat → Int32} (g : sr_gd K O L) {s : (Nat → Nat) × Nat} (hn : s.2 ≤ 12) (ok : sr_ok K O L B s.1 s.2) (htu : ∀ d, d < s.2 → tu d = nI (s.1 d)) (post : Int32 → SY → Prop)
    (h0 : sr_nx K O L B s.1 s.2 = none → ∀ st' va' ac' ho', post 0 (nI s.2, L, K, O, B, tu, st', va', ac', ho'))
    (h1 : ∀ s', sr_nx K O L B s.1 s.2 = some s' → ∀ tu' st' va' ac' ho', sr_YI K O B s'.1 s'.2 tu' st' va' ac' ho' → post 1 (nI s'.2, L, K, O, B, tu', st', va', ac', ho')) :
    wpY_next post (nI s.2, L, K, O, B, tu, st, va, ac, ho) :=
  nm_e ⟨s.2 + 1, sr_y_next7 g hn ok htu post _ s.2 _ _ _ _ _ (Nat.le_refl _) rfl h0 h1⟩
