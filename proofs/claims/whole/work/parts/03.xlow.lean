/-! the component's small methods -/
theorem sr_ix (n m t : Nat) : nI n * nI m + nI t = nI (n * m + t) := by rw [pk_mul, nI_add]
theorem sr_m1 (x : Int32) : x + (-1) = x - 1 := by rw [Int32.sub_eq_add_neg]
theorem sr_upl {w n i : Nat} {va v : Nat → Int32} {x y : Int32} (h : ∀ c, c < w → va (n * w + c) = v c) (e : x = y) : ∀ c, c < w → upd va (n * w + i) x (n * w + c) = upd v i y c := by
  intro c hc
  by_cases z : c = i
  · subst z; rw [pk_us, pk_us, e]
  · rw [pk_un (by omega), pk_un z, h c hc]
theorem sr_uplo {w n i : Nat} {va : Nat → Int32} {x : Int32} : ∀ j, j < n * w → upd va (n * w + i) x j = va j := fun j hj => pk_un (by omega)
theorem sr_ab_0 {K O L : Nat → Int32} {s : sr_S} {t : Nat} (h : ¬ s.2.1 t < (L t).toNatClampNeg) : sr_ab K O L s t = false := by
  unfold sr_ab; rw [decide_eq_false h]; rfl
theorem sr_ab_1 {K O L : Nat → Int32} {s : sr_S} {t : Nat} (h : s.2.1 t < (L t).toNatClampNeg) (hk : ¬ K (4 * t + s.2.1 t) = 4) : sr_ab K O L s t = true := by
  unfold sr_ab; rw [decide_eq_true h, decide_eq_true hk]; rfl
theorem sr_ab_2 {K O L : Nat → Int32} {s : sr_S} {t : Nat} (h : s.2.1 t < (L t).toNatClampNeg) (hh : s.2.2 (O (4 * t + s.2.1 t)).toNatClampNeg = -1) : sr_ab K O L s t = true := by
  unfold sr_ab; rw [decide_eq_true h, decide_eq_true hh, Bool.or_true]; rfl
theorem sr_ab_3 {K O L : Nat → Int32} {s : sr_S} {t : Nat} (hk : K (4 * t + s.2.1 t) = 4) (hh : ¬ s.2.2 (O (4 * t + s.2.1 t)).toNatClampNeg = -1) : sr_ab K O L s t = false := by
  have h1 : decide (¬ K (4 * t + s.2.1 t) = 4) = false := decide_eq_false (fun z => z hk)
  unfold sr_ab; rw [h1, decide_eq_false hh]; exact Bool.and_false _
def sr_XL (K O B : Nat → Int32) (p : Nat → Nat) (d : Nat) (va ho dn : Nat → Int32) : Prop :=
  (∀ c, c < 6 → va (d * 6 + c) = (sr_run K O B p d).1 c) ∧ (∀ l, l < 2 → ho (d * 2 + l) = (sr_run K O B p d).2.2 l) ∧ (∀ t, t < 3 → dn (d * 3 + t) = nI ((sr_run K O B p d).2.1 t))
def sr_XI (K O B : Nat → Int32) (p : Nat → Nat) (n : Nat) (va ho dn tT tS : Nat → Int32) : Prop :=
  (∀ d, d ≤ n → sr_XL K O B p d va ho dn) ∧ (∀ d, d < n → tT d = nI (p d) ∧ tS d = nI (4 * p d + (sr_run K O B p d).2.1 (p d)))
theorem sr_x_can {K O L B va ho dn tT tS : Nat → Int32} {p : Nat → Nat} {n t : Nat} (g : sr_gd K O L) (hn : n ≤ 12) (ht : t < 3) (hX : sr_XL K O B p n va ho dn) (ho4 : (sr_run K O B p n).2.1 t ≤ (L t).toNatClampNeg)
    (post : Int32 → Prop) (h1 : sr_A K O L B p n t = true → post 1) (h0 : sr_A K O L B p n t = false → post 0) : wpX_canHaveTurn post (nI n, K, O, L, B, va, ho, dn, tT, tS) (nI t) := by
  obtain ⟨m, hm, eL⟩ := g.1 t ht
  have hd := hX.2.2 t ht
  have hH := hX.2.1
  clear hX
  unfold sr_A at h1 h0
  generalize sr_run K O B p n = s at *
  have eL' : (L t).toNatClampNeg = m := by rw [eL]; exact nI_clamp (by omega)
  have e1 : nI n * 3 + nI t = nI (n * 3 + t) := sr_ix n 3 t
  have e2 : dn (nI n * 3 + nI t).toNatClampNeg = nI (s.2.1 t) := by rw [pk_cl _ e1, hd]
  have e3 : L (nI t).toNatClampNeg = nI m := by rw [nI_clamp (by omega), eL]
  have e4 : nI t * 4 + nI (s.2.1 t) = nI (4 * t + s.2.1 t) := by rw [Nat.mul_comm]; exact sr_ix t 4 _
  refine ⟨pk_in _ _ (by omega) e1, nm_r e2 ⟨pk_in t 3 ht, ?_⟩⟩
  refine pk_lt (s.2.1 t) m (fun hlt => nm_r e4 ?_) (fun hge => h0 (sr_ab_0 (by omega))) rfl e3
  have hc : 4 * t + s.2.1 t < 12 := by omega
  obtain ⟨k, hk, eK, _, hO⟩ := g.2 _ hc
  have e5 : K (nI (4 * t + s.2.1 t)).toNatClampNeg = nI k := by rw [nI_clamp (by omega), eK]
  refine ⟨pk_in _ _ hc, pk_eq k 4 (fun k4 => ⟨pk_in _ _ hc, ?_⟩) (fun k4 => h1 (sr_ab_1 (by omega) ?_)) e5⟩
  · obtain ⟨o, ho1, eO⟩ := hO (by omega)
    have e6 : O (nI (4 * t + s.2.1 t)).toNatClampNeg = nI o := by rw [nI_clamp (by omega), eO]
    have e7 : nI n * 2 + O (nI (4 * t + s.2.1 t)).toNatClampNeg = nI (n * 2 + o) := by rw [e6]; exact sr_ix n 2 o
    have e8 : ho (nI n * 2 + O (nI (4 * t + s.2.1 t)).toNatClampNeg).toNatClampNeg = s.2.2 (O (4 * t + s.2.1 t)).toNatClampNeg := by
      rw [pk_cl _ e7, eO, nI_clamp (by omega)]
      exact hH o (by omega)
    refine ⟨pk_in _ _ (by omega) e7, br_c (fun z => h1 (sr_ab_2 (by omega) (e8.symm.trans z))) (fun z => h0 (sr_ab_3 (by rw [eK, k4]; rfl) (fun y => z (e8.trans y))))⟩
  · rw [eK]
    intro z
    exact k4 ((nI_eq (b := 4) (by omega) (by omega)).mp z)
theorem sr_x_able {K O L B va ho dn tT tS : Nat → Int32} {p : Nat → Nat} {n : Nat} (g : sr_gd K O L) (hn : n ≤ 12) (hX : sr_XL K O B p n va ho dn) (ho4 : ∀ t, (sr_run K O B p n).2.1 t ≤ (L t).toNatClampNeg)
    (post : Int32 → Prop) : ∀ (f l : Nat), l + f = 3 → (sr_fa (sr_A K O L B p n) l < 3 → post (nI (sr_fa (sr_A K O L B p n) l))) → (¬ sr_fa (sr_A K O L B p n) l < 3 → post (-1)) → wX_ableThreadFrom_2 post (nI n) K O L B va ho dn tT tS (f + 1) (nI l) := by
  intro f
  induction f with
  | zero =>
    intro l hl h1 h0
    have e : sr_fa (sr_A K O L B p n) l = 3 := sr_fa_ge (by omega)
    exact br_t (nI_le (a := 3) (by omega) (by omega)) (h0 (by omega))
  | succ f ih =>
    intro l hl h1 h0
    refine br_f (nI_ge (b := 3) (by omega) (by decide)) (sr_x_can g hn (by omega) hX (ho4 l) _ (fun ha => ?_) (fun ha => ?_))
    · have e := sr_fa_t (a := sr_A K O L B p n) (l := l) (by omega) ha
      rw [e] at h1
      exact br_f (by decide) (h1 (by omega))
    · have e := sr_fa_f (a := sr_A K O L B p n) (l := l) (by omega) ha
      rw [e] at h1 h0
      exact br_t rfl (nm_r (nI_1 l) (ih (l + 1) (by omega) h1 h0))
theorem sr_x_ableF {K O L B va ho dn tT tS : Nat → Int32} {p : Nat → Nat} {n l : Nat} (g : sr_gd K O L) (hn : n ≤ 12) (hX : sr_XL K O B p n va ho dn) (ho4 : ∀ t, (sr_run K O B p n).2.1 t ≤ (L t).toNatClampNeg) (hl : l ≤ 3)
    (post : Int32 → Prop) (h1 : sr_fa (sr_A K O L B p n) l < 3 → post (nI (sr_fa (sr_A K O L B p n) l))) (h0 : ¬ sr_fa (sr_A K O L B p n) l < 3 → post (-1)) : wpX_ableThreadFrom post (nI n, K, O, L, B, va, ho, dn, tT, tS) (nI l) :=
  ⟨3 - l + 1, sr_x_able g hn hX ho4 post (3 - l) l (by omega) h1 h0⟩
theorem sr_v0 {o t : Nat} {v : Nat → Int32} (h : o < 2 ^ 31) : sr_vst (nI 0) (nI o) t v = upd v (3 + t) (v o) := by
  unfold sr_vst; rw [nI_clamp h, if_pos (by decide)]
theorem sr_v1 {o t : Nat} {v : Nat → Int32} (h : o < 2 ^ 31) : sr_vst (nI 1) (nI o) t v = upd v o (v (3 + t)) := by
  unfold sr_vst; rw [nI_clamp h, if_neg (by decide), if_pos (by decide)]
theorem sr_v2 {o t : Nat} {v : Nat → Int32} (h : o < 2 ^ 31) : sr_vst (nI 2) (nI o) t v = upd (upd v (3 + t) (v o)) o (v (3 + t)) := by
  unfold sr_vst; rw [nI_clamp h, if_neg (by decide), if_neg (by decide), if_pos (by decide)]
theorem sr_v3 {x : Int32} {t : Nat} {v : Nat → Int32} : sr_vst (nI 3) x t v = upd v (3 + t) (v (3 + t) + x) := by
  unfold sr_vst; rw [if_neg (by decide), if_neg (by decide), if_neg (by decide), if_pos (by decide)]
theorem sr_v45 {k : Nat} {x : Int32} {t : Nat} {v : Nat → Int32} (h : k = 4 ∨ k = 5) : sr_vst (nI k) x t v = v := by
  unfold sr_vst
  rcases h with z | z <;> subst z <;> rw [if_neg (by decide), if_neg (by decide), if_neg (by decide), if_neg (by decide)]
theorem sr_h03 {k : Nat} {x : Int32} {t : Nat} {h : Nat → Int32} (hk : k ≤ 3) : sr_hst (nI k) x t h = h := by
  unfold sr_hst
  rcases (by omega : k = 0 ∨ k = 1 ∨ k = 2 ∨ k = 3) with z | z | z | z <;> subst z <;> rw [if_neg (by decide), if_neg (by decide)]
theorem sr_h4 {o t : Nat} {h : Nat → Int32} (ho : o < 2 ^ 31) : sr_hst (nI 4) (nI o) t h = upd h o (nI t) := by
  unfold sr_hst; rw [nI_clamp ho, if_pos (by decide)]
theorem sr_h5 {o t : Nat} {h : Nat → Int32} (ho : o < 2 ^ 31) : sr_hst (nI 5) (nI o) t h = if h o = nI t then upd h o (-1) else h := by
  unfold sr_hst; rw [nI_clamp ho, if_neg (by decide), if_pos (by decide)]
theorem sr_x_carry {K O L B va ho dn tT tS v h : Nat → Int32} {n t k : Nat} {q : Int32} (hn : n ≤ 12) (ht : t < 3) (hk : k ≤ 5) (hq2 : k ≤ 2 → ∃ o, o ≤ 2 ∧ q = nI o) (hq4 : 4 ≤ k → ∃ o, o ≤ 1 ∧ q = nI o)
    (hv : ∀ c, c < 6 → va (n * 6 + c) = v c) (hh : ∀ l, l < 2 → ho (n * 2 + l) = h l) (post : SX → Prop)
    (H : ∀ va' ho', (∀ c, c < 6 → va' (n * 6 + c) = sr_vst (nI k) q t v c) → (∀ l, l < 2 → ho' (n * 2 + l) = sr_hst (nI k) q t h l) → (∀ j, j < n * 6 → va' j = va j) → (∀ j, j < n * 2 → ho' j = ho j) → post (nI n, K, O, L, B, va', ho', dn, tT, tS)) :
    wpX_carryOut post (nI n, K, O, L, B, va, ho, dn, tT, tS) (nI t) (nI k) q := by
  have e6 : nI n * 6 + 3 + nI t = nI (n * 6 + (3 + t)) := by
    rw [← Nat.add_assoc, ← nI_add (n * 6 + 3) t, ← sr_ix n 6 3]; rfl
  have i6 : vp_in (nI n * 6 + 3 + nI t) 78 := pk_in _ _ (by omega) e6
  have c6 : (nI n * 6 + 3 + nI t).toNatClampNeg = n * 6 + (3 + t) := pk_cl _ e6
  have hv3 := hv (3 + t) (by omega)
  rcases (by omega : k = 0 ∨ k = 1 ∨ k = 2 ∨ k = 3 ∨ k = 4 ∨ k = 5) with z | z | z | z | z | z
  · subst z
    obtain ⟨o, ho2, rfl⟩ := hq2 (by omega)
    have eo : nI n * 6 + nI o = nI (n * 6 + o) := sr_ix n 6 o
    have io : vp_in (nI n * 6 + nI o) 78 := pk_in _ _ (by omega) eo
    have co : (nI n * 6 + nI o).toNatClampNeg = n * 6 + o := pk_cl _ eo
    have hvo := hv o (by omega)
    refine nm_e (nm_e (nm_e (br_f (by decide) (br_f (by decide) (br_t (by decide) ⟨io, i6, nm_r (e' := upd va (n * 6 + (3 + t)) (va (n * 6 + o))) (by rw [c6, co]) ?_⟩)))))
    refine H _ _ ?_ ?_ sr_uplo (fun _ _ => rfl)
    · rw [sr_v0 (by omega)]; exact sr_upl hv hvo
    · rw [sr_h03 (by omega)]; exact hh
  · subst z
    obtain ⟨o, ho2, rfl⟩ := hq2 (by omega)
    have eo : nI n * 6 + nI o = nI (n * 6 + o) := sr_ix n 6 o
    have io : vp_in (nI n * 6 + nI o) 78 := pk_in _ _ (by omega) eo
    have co : (nI n * 6 + nI o).toNatClampNeg = n * 6 + o := pk_cl _ eo
    refine nm_e (nm_e (nm_e (br_f (by decide) (br_f (by decide) (br_f (by decide) (br_t (by decide) ⟨i6, io, nm_r (e' := upd va (n * 6 + o) (va (n * 6 + (3 + t)))) (by rw [c6, co]) ?_⟩))))))
    refine H _ _ ?_ ?_ sr_uplo (fun _ _ => rfl)
    · rw [sr_v1 (by omega)]; exact sr_upl hv hv3
    · rw [sr_h03 (by omega)]; exact hh
  · subst z
    obtain ⟨o, ho2, rfl⟩ := hq2 (by omega)
    have eo : nI n * 6 + nI o = nI (n * 6 + o) := sr_ix n 6 o
    have io : vp_in (nI n * 6 + nI o) 78 := pk_in _ _ (by omega) eo
    have co : (nI n * 6 + nI o).toNatClampNeg = n * 6 + o := pk_cl _ eo
    have hvo := hv o (by omega)
    refine nm_e (nm_e (nm_e (br_f (by decide) (br_f (by decide) (br_f (by decide) (br_f (by decide) (br_t (by decide) ⟨i6, nm_r (e' := va (n * 6 + (3 + t))) (by rw [c6]) ⟨io, i6, nm_r (e' := upd va (n * 6 + (3 + t)) (va (n * 6 + o))) (by rw [c6, co]) ⟨io, nm_r (e' := upd (upd va (n * 6 + (3 + t)) (va (n * 6 + o))) (n * 6 + o) (va (n * 6 + (3 + t)))) (by rw [co]) ?_⟩⟩⟩)))))))
    refine H _ _ ?_ ?_ (fun j hj => (sr_uplo j hj).trans (sr_uplo j hj)) (fun _ _ => rfl)
    · rw [sr_v2 (by omega)]; exact sr_upl (sr_upl hv hvo) hv3
    · rw [sr_h03 (by omega)]; exact hh
  · subst z
    refine nm_e (nm_e (nm_e (br_f (by decide) (br_f (by decide) (br_f (by decide) (br_f (by decide) (br_f (by decide) (br_t (by decide) ⟨i6, i6, nm_r (e' := upd va (n * 6 + (3 + t)) (va (n * 6 + (3 + t)) + q)) (by rw [c6]) ?_⟩))))))))
    refine H _ _ ?_ ?_ sr_uplo (fun _ _ => rfl)
    · rw [sr_v3]; exact sr_upl hv (by rw [hv3])
    · rw [sr_h03 (by omega)]; exact hh
  · subst z
    obtain ⟨o, ho2, rfl⟩ := hq4 (by omega)
    have eo : nI n * 2 + nI o = nI (n * 2 + o) := sr_ix n 2 o
    have io : vp_in (nI n * 2 + nI o) 26 := pk_in _ _ (by omega) eo
    have co : (nI n * 2 + nI o).toNatClampNeg = n * 2 + o := pk_cl _ eo
    refine nm_e (nm_e (nm_e (br_f (by decide) (br_f (by decide) (br_f (by decide) (br_f (by decide) (br_f (by decide) (br_f (by decide) (br_t (by decide) ⟨io, nm_r (e' := upd ho (n * 2 + o) (nI t)) (by rw [co]) ?_⟩)))))))))
    refine H _ _ ?_ ?_ (fun _ _ => rfl) sr_uplo
    · rw [sr_v45 (Or.inl rfl)]; exact hv
    · rw [sr_h4 (by omega)]; exact sr_upl hh rfl
  · subst z
    obtain ⟨o, ho2, rfl⟩ := hq4 (by omega)
    have eo : nI n * 2 + nI o = nI (n * 2 + o) := sr_ix n 2 o
    have io : vp_in (nI n * 2 + nI o) 26 := pk_in _ _ (by omega) eo
    have co : (nI n * 2 + nI o).toNatClampNeg = n * 2 + o := pk_cl _ eo
    have hho := hh o (by omega)
    refine nm_e (nm_e (nm_e (br_f (by decide) (br_t (by decide) ⟨io, br_c (fun z => ⟨io, nm_r (e' := upd ho (n * 2 + o) (-1)) (by rw [co]) ?_⟩) (fun z => ?_)⟩))))
    · rw [co, hho] at z
      refine H _ _ ?_ ?_ (fun _ _ => rfl) sr_uplo
      · rw [sr_v45 (Or.inr rfl)]; exact hv
      · rw [sr_h5 (by omega), if_pos z]; exact sr_upl hh rfl
    · rw [co, hho] at z
      refine H _ _ ?_ ?_ (fun _ _ => rfl) (fun _ _ => rfl)
      · rw [sr_v45 (Or.inr rfl)]; exact hv
      · rw [sr_h5 (by omega), if_neg z]; exact hh
