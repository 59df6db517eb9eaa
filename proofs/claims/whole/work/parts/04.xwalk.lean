/-! the component's walk: copying a level, a turn, to the end, the first end, the next end -/
theorem sr_x_cp88 {K O L B va ho dn tT tS : Nat → Int32} {n : Nat} (hn : n ≤ 11) (post : SX → Prop)
    (H : ∀ s : Nat → Int32, (∀ c, c < 3 → s ((n + 1) * 3 + c) = dn (n * 3 + c)) → (∀ j, j < (n + 1) * 3 → s j = dn j) → post (nI n, K, O, L, B, va, ho, s, tT, tS)) :
    ∃ N, wX_copyStateToNextLevel_88 post (nI n) N (nI (n * 3)) K O L B va ho dn tT tS := by
  have e : (nI n + 1) * 3 = nI ((n + 1) * 3) := by rw [nI_1]; exact pk_mul _ 3
  refine ⟨(n + 1) * 3 + 1, loop_i (fun f i (s : Nat → Int32) => wX_copyStateToNextLevel_88 post (nI n) f (nI i) K O L B va ho s tT tS) (fun i s => (∀ j, j < (n + 1) * 3 → s j = dn j) ∧ (∀ j, (n + 1) * 3 ≤ j → j < i + 3 → s j = dn (j - 3)) ∧ n * 3 ≤ i) ((n + 1) * 3) ?_ ?_ _ _ _ (by omega) (by omega) ⟨fun _ _ => rfl, fun j h1 h2 => by omega, Nat.le_refl _⟩⟩
  · intro f s h
    have hs1 : ∀ c, c < 3 → s ((n + 1) * 3 + c) = dn (n * 3 + c) := by
      intro c hc
      rw [h.2.1 _ (by omega) (by omega)]
      exact congrArg dn (by omega)
    exact br_t (by rw [e]; exact Int32.le_refl _) (H s hs1 h.1)
  · intro f i s hi h ih
    refine br_f (by rw [e]; exact nI_ge hi (by omega)) ⟨pk_in i 39 (by omega), pk_in (i + 3) 39 (by omega) (nI_add i 3), nm_r (e' := upd s (i + 3) (s i)) (by rw [nI_clamp (n := i) (by omega), show (nI i + 3).toNatClampNeg = i + 3 from pk_cl (i + 3) (nI_add i 3)]) (nm_r (nI_1 i) (ih _ ⟨?_, ?_, by have := h.2.2; omega⟩))⟩
    · intro j hj
      rw [pk_un (by have := h.2.2; omega)]
      exact h.1 j hj
    · intro j h1 h2
      by_cases z : j = i + 3
      · subst z
        rw [pk_us, Nat.add_sub_cancel]
        exact h.1 i hi
      · rw [pk_un z]
        exact h.2.1 j h1 (by omega)
theorem sr_x_cp49 {K O L B va ho dn tT tS : Nat → Int32} {n : Nat} (hn : n ≤ 11) (post : SX → Prop)
    (H : ∀ s : Nat → Int32, (∀ c, c < 2 → s ((n + 1) * 2 + c) = ho (n * 2 + c)) → (∀ j, j < (n + 1) * 2 → s j = ho j) → ∃ N, wX_copyStateToNextLevel_88 post (nI n) N (nI (n * 3)) K O L B va s dn tT tS) :
    ∃ N, wX_copyStateToNextLevel_49 post (nI n) N (nI (n * 2)) K O L B va ho dn tT tS := by
  have e : (nI n + 1) * 2 = nI ((n + 1) * 2) := by rw [nI_1]; exact pk_mul _ 2
  refine ⟨(n + 1) * 2 + 1, loop_i (fun f i (s : Nat → Int32) => wX_copyStateToNextLevel_49 post (nI n) f (nI i) K O L B va s dn tT tS) (fun i s => (∀ j, j < (n + 1) * 2 → s j = ho j) ∧ (∀ j, (n + 1) * 2 ≤ j → j < i + 2 → s j = ho (j - 2)) ∧ n * 2 ≤ i) ((n + 1) * 2) ?_ ?_ _ _ _ (by omega) (by omega) ⟨fun _ _ => rfl, fun j h1 h2 => by omega, Nat.le_refl _⟩⟩
  · intro f s h
    have hs1 : ∀ c, c < 2 → s ((n + 1) * 2 + c) = ho (n * 2 + c) := by
      intro c hc
      rw [h.2.1 _ (by omega) (by omega)]
      exact congrArg ho (by omega)
    exact br_t (by rw [e]; exact Int32.le_refl _) (nm_r (pk_mul n 3) (H s hs1 h.1))
  · intro f i s hi h ih
    refine br_f (by rw [e]; exact nI_ge hi (by omega)) ⟨pk_in i 26 (by omega), pk_in (i + 2) 26 (by omega) (nI_add i 2), nm_r (e' := upd s (i + 2) (s i)) (by rw [nI_clamp (n := i) (by omega), show (nI i + 2).toNatClampNeg = i + 2 from pk_cl (i + 2) (nI_add i 2)]) (nm_r (nI_1 i) (ih _ ⟨?_, ?_, by have := h.2.2; omega⟩))⟩
    · intro j hj
      rw [pk_un (by have := h.2.2; omega)]
      exact h.1 j hj
    · intro j h1 h2
      by_cases z : j = i + 2
      · subst z
        rw [pk_us, Nat.add_sub_cancel]
        exact h.1 i hi
      · rw [pk_un z]
        exact h.2.1 j h1 (by omega)
theorem sr_x_cp8 {K O L B va ho dn tT tS : Nat → Int32} {n : Nat} (hn : n ≤ 11) (post : SX → Prop)
    (H : ∀ s : Nat → Int32, (∀ c, c < 6 → s ((n + 1) * 6 + c) = va (n * 6 + c)) → (∀ j, j < (n + 1) * 6 → s j = va j) → ∃ N, wX_copyStateToNextLevel_49 post (nI n) N (nI (n * 2)) K O L B s ho dn tT tS) :
    ∃ N, wX_copyStateToNextLevel_8 post (nI n) N (nI (n * 6)) K O L B va ho dn tT tS := by
  have e : (nI n + 1) * 6 = nI ((n + 1) * 6) := by rw [nI_1]; exact pk_mul _ 6
  refine ⟨(n + 1) * 6 + 1, loop_i (fun f i (s : Nat → Int32) => wX_copyStateToNextLevel_8 post (nI n) f (nI i) K O L B s ho dn tT tS) (fun i s => (∀ j, j < (n + 1) * 6 → s j = va j) ∧ (∀ j, (n + 1) * 6 ≤ j → j < i + 6 → s j = va (j - 6)) ∧ n * 6 ≤ i) ((n + 1) * 6) ?_ ?_ _ _ _ (by omega) (by omega) ⟨fun _ _ => rfl, fun j h1 h2 => by omega, Nat.le_refl _⟩⟩
  · intro f s h
    have hs1 : ∀ c, c < 6 → s ((n + 1) * 6 + c) = va (n * 6 + c) := by
      intro c hc
      rw [h.2.1 _ (by omega) (by omega)]
      exact congrArg va (by omega)
    exact br_t (by rw [e]; exact Int32.le_refl _) (nm_r (pk_mul n 2) (H s hs1 h.1))
  · intro f i s hi h ih
    refine br_f (by rw [e]; exact nI_ge hi (by omega)) ⟨pk_in i 78 (by omega), pk_in (i + 6) 78 (by omega) (nI_add i 6), nm_r (e' := upd s (i + 6) (s i)) (by rw [nI_clamp (n := i) (by omega), show (nI i + 6).toNatClampNeg = i + 6 from pk_cl (i + 6) (nI_add i 6)]) (nm_r (nI_1 i) (ih _ ⟨?_, ?_, by have := h.2.2; omega⟩))⟩
    · intro j hj
      rw [pk_un (by have := h.2.2; omega)]
      exact h.1 j hj
    · intro j h1 h2
      by_cases z : j = i + 6
      · subst z
        rw [pk_us, Nat.add_sub_cancel]
        exact h.1 i hi
      · rw [pk_un z]
        exact h.2.1 j h1 (by omega)
theorem sr_x_copy {K O L B va ho dn tT tS : Nat → Int32} {n : Nat} (hn : n ≤ 11) (post : SX → Prop)
    (H : ∀ va' ho' dn' : Nat → Int32, (∀ c, c < 6 → va' ((n + 1) * 6 + c) = va (n * 6 + c)) → (∀ j, j < (n + 1) * 6 → va' j = va j) → (∀ c, c < 2 → ho' ((n + 1) * 2 + c) = ho (n * 2 + c)) → (∀ j, j < (n + 1) * 2 → ho' j = ho j) → (∀ c, c < 3 → dn' ((n + 1) * 3 + c) = dn (n * 3 + c)) → (∀ j, j < (n + 1) * 3 → dn' j = dn j) → post (nI n, K, O, L, B, va', ho', dn', tT, tS)) :
    wpX_copyStateToNextLevel post (nI n, K, O, L, B, va, ho, dn, tT, tS) :=
  nm_r (pk_mul n 6) (sr_x_cp8 hn post (fun va' a1 a2 => sr_x_cp49 hn post (fun ho' b1 b2 => sr_x_cp88 hn post (fun dn' c1 c2 => H va' ho' dn' a1 a2 b1 b2 c1 c2))))
theorem sr_x_turn {K O L B va ho dn tT tS : Nat → Int32} {p : Nat → Nat} {n t : Nat} (g : sr_gd K O L) (hn : n ≤ 11) (ht : t < 3) (ha : sr_A K O L B p n t = true) (hX : sr_XI K O B p n va ho dn tT tS) (post : SX → Prop)
    (H : ∀ va' ho' dn' tT' tS', sr_XI K O B (sr_pu p n t) (n + 1) va' ho' dn' tT' tS' → post (nI (n + 1), K, O, L, B, va', ho', dn', tT', tS')) :
    wpX_takeTurn post (nI n, K, O, L, B, va, ho, dn, tT, tS) (nI t) := by
  have hlt := sr_ab_lt ha
  obtain ⟨m, hm, eL⟩ := g.1 t ht
  have eL' : (L t).toNatClampNeg = m := by rw [eL]; exact nI_clamp (by omega)
  obtain ⟨hXv, hXh, hXd⟩ := hX.1 n (Nat.le_refl n)
  have hd := hXd t ht
  have hc : 4 * t + (sr_run K O B p n).2.1 t < 12 := by omega
  obtain ⟨k, hk, eK, hO2, hO4⟩ := g.2 _ hc
  have er : sr_run K O B (sr_pu p n t) (n + 1) = sr_stp K O (sr_run K O B p n) t := by
    show sr_stp K O (sr_run K O B (sr_pu p n t) n) (sr_pu p n t n) = _
    rw [sr_run_pu K O B (Nat.le_refl n), sr_pus]
  have e1 : nI n * 3 + nI t = nI (n * 3 + t) := sr_ix n 3 t
  have e2 : nI t * 4 + dn (nI n * 3 + nI t).toNatClampNeg = nI (4 * t + (sr_run K O B p n).2.1 t) := by
    rw [pk_cl _ e1, hd, Nat.mul_comm]; exact sr_ix t 4 _
  have e3 : nI (n + 1) * 3 + nI t = nI ((n + 1) * 3 + t) := sr_ix (n + 1) 3 t
  have c3 : (nI (n + 1) * 3 + nI t).toNatClampNeg = (n + 1) * 3 + t := pk_cl _ e3
  have i3 : vp_in (nI (n + 1) * 3 + nI t) 39 := pk_in _ _ (by omega) e3
  have ic : vp_in (nI (4 * t + (sr_run K O B p n).2.1 t)) 12 := pk_in _ _ hc
  refine ⟨pk_in _ _ (by omega) e1, nm_r e2 ⟨pk_in n 12 (by omega), nm_r (e' := upd tT n (nI t)) (by rw [nI_clamp (n := n) (by omega)]) ⟨pk_in n 12 (by omega), nm_r (e' := upd tS n (nI (4 * t + (sr_run K O B p n).2.1 t))) (by rw [nI_clamp (n := n) (by omega)]) ?_⟩⟩⟩
  refine sr_x_copy hn _ (fun va' ho' dn' a1 a2 b1 b2 c1 c2 => ?_)
  refine nm_r (nI_1 n) ⟨i3, i3, nm_r (e' := upd dn' ((n + 1) * 3 + t) (nI ((sr_run K O B p n).2.1 t + 1))) ?_ ⟨ic, ic, ?_⟩⟩
  · rw [c3, c1 t ht, hd, nI_1]
  rw [nI_clamp (n := 4 * t + (sr_run K O B p n).2.1 t) (by omega), eK]
  refine sr_x_carry (v := (sr_run K O B p n).1) (h := (sr_run K O B p n).2.2) (by omega) ht hk hO2 hO4 (fun c hc => (a1 c hc).trans (hXv c hc)) (fun c hc => (b1 c hc).trans (hXh c hc)) _ (fun va2 ho2 f1 f2 f3 f4 => H _ _ _ _ _ ⟨?_, ?_⟩)
  · intro d hd'
    by_cases z : d = n + 1
    · subst z
      unfold sr_XL
      rw [er]
      refine ⟨?_, ?_, ?_⟩
      · intro c hc
        rw [f1 c hc, ← eK]; rfl
      · intro c hc
        rw [f2 c hc, ← eK]; rfl
      · intro c hc
        show upd dn' ((n + 1) * 3 + t) (nI ((sr_run K O B p n).2.1 t + 1)) ((n + 1) * 3 + c) = nI (sr_pu (sr_run K O B p n).2.1 t ((sr_run K O B p n).2.1 t + 1) c)
        by_cases y : c = t
        · subst y
          rw [pk_us, sr_pus]
        · rw [pk_un (by omega), sr_pun y, c1 c hc, hXd c hc]
    · have hdn : d ≤ n := by omega
      unfold sr_XL
      rw [sr_run_pu K O B hdn]
      obtain ⟨g1, g2, g3⟩ := hX.1 d hdn
      refine ⟨?_, ?_, ?_⟩
      · intro c hc
        rw [f3 _ (by omega), a2 _ (by omega), g1 c hc]
      · intro c hc
        rw [f4 _ (by omega), b2 _ (by omega), g2 c hc]
      · intro c hc
        rw [pk_un (by omega), c2 _ (by omega), g3 c hc]
  · intro d hd'
    by_cases z : d = n
    · subst z
      rw [pk_us, pk_us, sr_pus, sr_run_pu K O B (Nat.le_refl d)]
      exact ⟨rfl, rfl⟩
    · rw [pk_un z, pk_un z, sr_pun z, sr_run_pu K O B (by omega)]
      exact hX.2 d (by omega)
theorem sr_x_run5 {K O L B : Nat → Int32} (g : sr_gd K O L) (post : SX → Prop) : ∀ (f n : Nat) (p : Nat → Nat) (va ho dn tT tS : Nat → Int32), n + f = 12 → sr_ok K O L B p n → sr_XI K O B p n va ho dn tT tS →
    (∀ va' ho' dn' tT' tS', sr_XI K O B (sr_ext K O L B f p n).1 (sr_ext K O L B f p n).2 va' ho' dn' tT' tS' → post (nI (sr_ext K O L B f p n).2, K, O, L, B, va', ho', dn', tT', tS')) →
    wX_runToEnd_5 post (f + 1) (nI n) (nI n) K O L B va ho dn tT tS := by
  intro f
  induction f with
  | zero =>
    intro n p va ho dn tT tS hn ok hX H
    exact br_t (nI_le (a := 12) (by omega) (by omega)) (H _ _ _ _ _ hX)
  | succ f ih =>
    intro n p va ho dn tT tS hn ok hX H
    refine br_f (nI_ge (b := 12) (by omega) (by decide)) (sr_x_ableF (l := 0) g (by omega) (hX.1 n (Nat.le_refl n)) (sr_at_le ok) (by omega) _ (fun c => ?_) (fun c => ?_))
    · have e : sr_ext K O L B (f + 1) p n = sr_ext K O L B f (sr_pu p n (sr_fa (sr_A K O L B p n) 0)) (n + 1) := if_pos c
      rw [e] at H
      have ne : ¬ nI (sr_fa (sr_A K O L B p n) 0) = -1 := fun z => by
        have h1 := nI_pos (n := sr_fa (sr_A K O L B p n) 0) (by omega)
        rw [z] at h1
        exact h1 (by decide)
      refine br_f ne (sr_x_turn g (by omega) c (sr_fa_sp c).2 hX _ (fun va' ho' dn' tT' tS' hX' => nm_r (nI_1 n) (ih (n + 1) _ va' ho' dn' tT' tS' (by omega) (sr_ok_pu ok c (sr_fa_sp c).2) hX' H)))
    · have e : sr_ext K O L B (f + 1) p n = (p, n) := if_neg c
      rw [e] at H
      exact br_t rfl (H _ _ _ _ _ hX)
theorem sr_x_run {K O L B va ho dn tT tS : Nat → Int32} (g : sr_gd K O L) (post : SX → Prop) {n : Nat} {p : Nat → Nat} (hn : n ≤ 12) (ok : sr_ok K O L B p n) (hX : sr_XI K O B p n va ho dn tT tS)
    (H : ∀ va' ho' dn' tT' tS', sr_XI K O B (sr_ext K O L B (12 - n) p n).1 (sr_ext K O L B (12 - n) p n).2 va' ho' dn' tT' tS' → post (nI (sr_ext K O L B (12 - n) p n).2, K, O, L, B, va', ho', dn', tT', tS')) :
    wpX_runToEnd post (nI n, K, O, L, B, va, ho, dn, tT, tS) :=
  ⟨12 - n + 1, sr_x_run5 g post (12 - n) n p va ho dn tT tS (by omega) ok hX H⟩
theorem sr_x_ff48 {K O L B va ho dn tT tS : Nat → Int32} {f0 : Int32} (post : SX → Prop)
    (H : ∀ s : Nat → Int32, (∀ c, c < 3 → s c = 0) → wpX_runToEnd post (0, K, O, L, B, va, ho, s, tT, tS)) :
    ∃ N, wX_goToFirstEnd_48 post f0 N 0 K O L B va ho dn tT tS := by
  refine loop_0 (fun f i (s : Nat → Int32) => wX_goToFirstEnd_48 post f0 f (nI i) K O L B va ho s tT tS) (fun i s => ∀ j, j < i → s j = 0) 3 _ (fun j hj => absurd hj (Nat.not_lt_zero j)) ?_ ?_
  · intro f s h
    exact br_t (by decide) (H s h)
  · intro f i s hi h ih
    refine br_f (nI_ge (b := 3) (by omega) (by decide)) ⟨pk_in i 39 (by omega), nm_r (e' := upd s i 0) (by rw [nI_clamp (n := i) (by omega)]) (nm_r (nI_1 i) (ih _ ?_))⟩
    intro j hj
    by_cases z : j = i
    · subst z; exact pk_us
    · rw [pk_un z]; exact h j (by omega)
theorem sr_x_ff28 {K O L B va ho dn tT tS : Nat → Int32} {f0 : Int32} (post : SX → Prop)
    (H : ∀ s : Nat → Int32, (∀ c, c < 2 → s c = (-1)) → ∃ N, wX_goToFirstEnd_48 post f0 N 0 K O L B va s dn tT tS) :
    ∃ N, wX_goToFirstEnd_28 post f0 N 0 K O L B va ho dn tT tS := by
  refine loop_0 (fun f i (s : Nat → Int32) => wX_goToFirstEnd_28 post f0 f (nI i) K O L B va s dn tT tS) (fun i s => ∀ j, j < i → s j = (-1)) 2 _ (fun j hj => absurd hj (Nat.not_lt_zero j)) ?_ ?_
  · intro f s h
    exact br_t (by decide) (H s h)
  · intro f i s hi h ih
    refine br_f (nI_ge (b := 2) (by omega) (by decide)) ⟨pk_in i 26 (by omega), nm_r (e' := upd s i (-1)) (by rw [nI_clamp (n := i) (by omega)]) (nm_r (nI_1 i) (ih _ ?_))⟩
    intro j hj
    by_cases z : j = i
    · subst z; exact pk_us
    · rw [pk_un z]; exact h j (by omega)
theorem sr_x_ff2 {K O L B va ho dn tT tS : Nat → Int32} {f0 : Int32} (post : SX → Prop)
    (H : ∀ s : Nat → Int32, (∀ c, c < 6 → s c = (B c)) → ∃ N, wX_goToFirstEnd_28 post f0 N 0 K O L B s ho dn tT tS) :
    ∃ N, wX_goToFirstEnd_2 post f0 N 0 K O L B va ho dn tT tS := by
  refine loop_0 (fun f i (s : Nat → Int32) => wX_goToFirstEnd_2 post f0 f (nI i) K O L B s ho dn tT tS) (fun i s => ∀ j, j < i → s j = (B j)) 6 _ (fun j hj => absurd hj (Nat.not_lt_zero j)) ?_ ?_
  · intro f s h
    exact br_t (by decide) (H s h)
  · intro f i s hi h ih
    refine br_f (nI_ge (b := 6) (by omega) (by decide)) ⟨pk_in i 6 (by omega), pk_in i 78 (by omega), nm_r (e' := upd s i (B i)) (by rw [nI_clamp (n := i) (by omega)]) (nm_r (nI_1 i) (ih _ ?_))⟩
    intro j hj
    by_cases z : j = i
    · subst z; exact pk_us
    · rw [pk_un z]; exact h j (by omega)
theorem sr_x_first {K O L B va ho dn tT tS : Nat → Int32} {f0 : Int32} (g : sr_gd K O L) (post : SX → Prop)
    (H : ∀ va' ho' dn' tT' tS', sr_XI K O B (sr_first K O L B).1 (sr_first K O L B).2 va' ho' dn' tT' tS' → post (nI (sr_first K O L B).2, K, O, L, B, va', ho', dn', tT', tS')) :
    wpX_goToFirstEnd post (f0, K, O, L, B, va, ho, dn, tT, tS) := by
  refine sr_x_ff2 post (fun va' a => sr_x_ff28 post (fun ho' b => sr_x_ff48 post (fun dn' c => ?_)))
  refine sr_x_run (n := 0) (p := fun _ => 0) g post (by omega) (fun d hd => absurd hd (Nat.not_lt_zero d)) ⟨?_, fun d hd => absurd hd (Nat.not_lt_zero d)⟩ H
  intro d hd
  have z : d = 0 := by omega
  subst z
  refine ⟨fun j hj => ?_, fun j hj => ?_, fun j hj => ?_⟩
  · rw [Nat.zero_mul, Nat.zero_add]; exact a j hj
  · rw [Nat.zero_mul, Nat.zero_add]; exact b j hj
  · rw [Nat.zero_mul, Nat.zero_add]; exact c j hj
theorem sr_x_next7 {K O L B va ho dn tT tS : Nat → Int32} (g : sr_gd K O L) {p : Nat → Nat} {n : Nat} (hn : n ≤ 12) (ok : sr_ok K O L B p n) (hX : sr_XI K O B p n va ho dn tT tS) (post : Int32 → SX → Prop) :
    ∀ (d : Nat) (x1 f0 : Int32), d ≤ n → x1 = nI d - 1 →
    (sr_nx K O L B p d = none → ∀ f1, post 0 (f1, K, O, L, B, va, ho, dn, tT, tS)) →
    (∀ s, sr_nx K O L B p d = some s → ∀ va' ho' dn' tT' tS', sr_XI K O B s.1 s.2 va' ho' dn' tT' tS' → post 1 (nI s.2, K, O, L, B, va', ho', dn', tT', tS')) →
    wX_goToNextEnd_7 post K O L B va ho dn tT tS (d + 1) x1 f0 := by
  intro d
  induction d with
  | zero =>
    intro x1 f0 _ e h0 h1
    subst e
    exact br_t (by decide) (h0 rfl f0)
  | succ d ih =>
    intro x1 f0 hd e h0 h1
    rw [nI_pred] at e
    subst e
    obtain ⟨hp, hA⟩ := ok d (by omega)
    have okd : sr_ok K O L B p d := sr_ok_le ok (by omega)
    have e1 : tT (nI d).toNatClampNeg + 1 = nI (p d + 1) := by
      rw [nI_clamp (by omega), (hX.2 d (by omega)).1, nI_1]
    have hXd : sr_XI K O B p d va ho dn tT tS := ⟨fun j hj => hX.1 j (by omega), fun j hj => hX.2 j (by omega)⟩
    refine br_f (nI_pos (by omega)) ⟨pk_in d 12 (by omega), ?_⟩
    rw [e1]
    refine sr_x_ableF g (by omega) (hXd.1 d (Nat.le_refl d)) (sr_at_le okd) (by omega) _ (fun c => ?_) (fun c => ?_)
    · have e2 : sr_nx K O L B p (d + 1) = some (sr_ext K O L B (11 - d) (sr_pu p d (sr_fa (sr_A K O L B p d) (p d + 1))) (d + 1)) := if_pos c
      have ne : ¬ nI (sr_fa (sr_A K O L B p d) (p d + 1)) = -1 := fun z => by
        have h1 := nI_pos (n := sr_fa (sr_A K O L B p d) (p d + 1)) (by omega)
        rw [z] at h1
        exact h1 (by decide)
      have e3 : 12 - (d + 1) = 11 - d := by omega
      refine br_f ne (sr_x_turn g (by omega) c (sr_fa_sp c).2 hXd _ (fun va' ho' dn' tT' tS' hX' => sr_x_run (n := d + 1) g _ (by omega) (sr_ok_pu okd c (sr_fa_sp c).2) hX' ?_))
      rw [e3]
      exact h1 _ e2
    · have e2 : sr_nx K O L B p (d + 1) = sr_nx K O L B p d := if_neg c
      rw [e2] at h0 h1
      exact br_t rfl (nm_e (ih _ _ (by omega) (sr_m1 _) h0 h1))
theorem sr_x_next {K O L B va ho dn tT tS : Nat → Int32} (g : sr_gd K O L) {s : (Nat → Nat) × Nat} (hn : s.2 ≤ 12) (ok : sr_ok K O L B s.1 s.2) (hX : sr_XI K O B s.1 s.2 va ho dn tT tS) (post : Int32 → SX → Prop)
    (h0 : sr_nx K O L B s.1 s.2 = none → ∀ f1, post 0 (f1, K, O, L, B, va, ho, dn, tT, tS))
    (h1 : ∀ s', sr_nx K O L B s.1 s.2 = some s' → ∀ va' ho' dn' tT' tS', sr_XI K O B s'.1 s'.2 va' ho' dn' tT' tS' → post 1 (nI s'.2, K, O, L, B, va', ho', dn', tT', tS')) :
    wpX_goToNextEnd post (nI s.2, K, O, L, B, va, ho, dn, tT, tS) :=
  nm_e ⟨s.2 + 1, sr_x_next7 g hn ok hX post s.2 _ _ (Nat.le_refl _) rfl h0 h1⟩
