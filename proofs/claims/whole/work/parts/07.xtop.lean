/-! the component's loops over all ends -/
def sr_vl (K O B : Nat → Int32) (x : Nat) (s : (Nat → Nat) × Nat) : Int32 := (sr_run K O B s.1 s.2).1 x
def sr_sk (K O L B : Nat → Int32) (s : (Nat → Nat) × Nat) : Bool :=
  decide ((sr_run K O B s.1 s.2).2.1 0 < (L 0).toNatClampNeg ∨ (sr_run K O B s.1 s.2).2.1 1 < (L 1).toNatClampNeg ∨ (sr_run K O B s.1 s.2).2.1 2 < (L 2).toNatClampNeg)
def sr_eb (K O B : Nat → Int32) (x y : Nat) (a b : Int32) (s : (Nat → Nat) × Nat) : Bool := decide (sr_vl K O B x s = a ∧ sr_vl K O B y s = b)
def sr_cc (f : (Nat → Nat) × Nat → Bool) : List ((Nat → Nat) × Nat) → Nat
  | [] => 0
  | s :: l => (if f s = true then 1 else 0) + sr_cc f l
def sr_an (f : (Nat → Nat) × Nat → Bool) : List ((Nat → Nat) × Nat) → Bool
  | [] => false
  | s :: l => f s || sr_an f l
def sr_ex (w : Bool) (b v : Int32) : Int32 := if w = true then (if v ≤ b then b else v) else (if b ≤ v then b else v)
def sr_fo (w : Bool) (f : (Nat → Nat) × Nat → Int32) : Int32 → List ((Nat → Nat) × Nat) → Int32
  | b, [] => b
  | b, s :: l => sr_fo w f (sr_ex w b (f s)) l
theorem sr_x_vn {K O L B va ho dn tT tS : Nat → Int32} {s : (Nat → Nat) × Nat} {x : Nat} (hn : s.2 ≤ 12) (hx : x < 6) (hX : sr_XI K O B s.1 s.2 va ho dn tT tS) (post : Int32 → Prop) (H : post (sr_vl K O B x s)) : wpX_valueNow post (nI s.2, K, O, L, B, va, ho, dn, tT, tS) (nI x) := by
  have e : nI s.2 * 6 + nI x = nI (s.2 * 6 + x) := sr_ix s.2 6 x
  have e2 : va (nI s.2 * 6 + nI x).toNatClampNeg = sr_vl K O B x s := by rw [pk_cl _ e]; exact (hX.1 s.2 (Nat.le_refl _)).1 x hx
  refine ⟨pk_in _ _ (by omega) e, ?_⟩
  rw [e2]
  exact H
theorem sr_x_stuck2 {K O L B va ho dn tT tS : Nat → Int32} {s : (Nat → Nat) × Nat} (g : sr_gd K O L) (hn : s.2 ≤ 12) (hX : sr_XI K O B s.1 s.2 va ho dn tT tS) (ok : sr_ok K O L B s.1 s.2) (post : Int32 → Prop) (h1 : (∃ t, t < 3 ∧ (sr_run K O B s.1 s.2).2.1 t < (L t).toNatClampNeg) → post 1) (h0 : (∀ t, t < 3 → ¬ (sr_run K O B s.1 s.2).2.1 t < (L t).toNatClampNeg) → post 0) :
    ∀ r t : Nat, t + r = 3 → (∀ j, j < t → ¬ (sr_run K O B s.1 s.2).2.1 j < (L j).toNatClampNeg) → wX_isStuck_2 post (nI s.2) K O L B va ho dn tT tS (r + 1) (nI t) := by
  intro r
  induction r with
  | zero =>
    intro t ht hj
    exact br_t (nI_le (a := 3) (by omega) (by omega)) (h0 (fun j hj' => hj j (by omega)))
  | succ r ih =>
    intro t ht hj
    obtain ⟨m, hm, eL⟩ := g.1 t (by omega)
    have eL' : (L t).toNatClampNeg = m := by rw [eL]; exact nI_clamp (by omega)
    have hle := sr_at_le ok t
    have e : nI s.2 * 3 + nI t = nI (s.2 * 3 + t) := sr_ix s.2 3 t
    have e2 : dn (nI s.2 * 3 + nI t).toNatClampNeg = nI ((sr_run K O B s.1 s.2).2.1 t) := by rw [pk_cl _ e]; exact (hX.1 s.2 (Nat.le_refl _)).2.2 t (by omega)
    have e3 : L (nI t).toNatClampNeg = nI m := by rw [nI_clamp (by omega), eL]
    refine br_f (nI_ge (b := 3) (by omega) (by decide)) ⟨pk_in _ _ (by omega) e, pk_in t 3 (by omega), pk_le m ((sr_run K O B s.1 s.2).2.1 t) (fun z => nm_r (nI_1 t) (ih (t + 1) (by omega) ?_)) (fun z => h1 ⟨t, by omega, by omega⟩) e3 e2⟩
    intro j hj'
    by_cases y : j = t
    · subst y; omega
    · exact hj j (by omega)
theorem sr_x_stuck {K O L B va ho dn tT tS : Nat → Int32} {s : (Nat → Nat) × Nat} (g : sr_gd K O L) (hn : s.2 ≤ 12) (hX : sr_XI K O B s.1 s.2 va ho dn tT tS) (ok : sr_ok K O L B s.1 s.2) (post : Int32 → Prop) (h1 : sr_sk K O L B s = true → post 1) (h0 : sr_sk K O L B s = false → post 0) : wpX_isStuck post (nI s.2, K, O, L, B, va, ho, dn, tT, tS) := by
  refine ⟨4, sr_x_stuck2 g hn hX ok post (fun z => h1 (decide_eq_true ?_)) (fun z => h0 (decide_eq_false ?_)) 3 0 (by omega) (fun j hj => absurd hj (Nat.not_lt_zero j))⟩
  · obtain ⟨t, ht, z⟩ := z
    rcases (by omega : t = 0 ∨ t = 1 ∨ t = 2) with y | y | y <;> subst y
    · exact Or.inl z
    · exact Or.inr (Or.inl z)
    · exact Or.inr (Or.inr z)
  · intro y
    rcases y with y | y | y
    · exact z 0 (by omega) y
    · exact z 1 (by omega) y
    · exact z 2 (by omega) y
theorem sr_x_sch6 {K O L B : Nat → Int32} (g : sr_gd K O L) (post : Int32 → SX → Prop) : ∀ (l : List ((Nat → Nat) × Nat)) (s : (Nat → Nat) × Nat) (e : Nat) (va ho dn tT tS : Nat → Int32), sr_Ch K O L B s l → s.2 ≤ 12 → sr_ok K O L B s.1 s.2 → sr_XI K O B s.1 s.2 va ho dn tT tS → e + l.length + 1 < 1000000 →
    (∀ f va' ho' dn' tT' tS', post (nI (e + l.length + 1)) (f, K, O, L, B, va', ho', dn', tT', tS')) → wX_schedules_6 post (l.length + 1) (nI e) (nI s.2) K O L B va ho dn tT tS := by
  intro l
  induction l with
  | nil =>
    intro s e va ho dn tT tS hC hn ok hX hl H
    have hC0 : sr_nx K O L B s.1 s.2 = none := hC
    exact nm_r (nI_1 e) (br_f (nI_ge (b := 1000000) (by simp only [List.length_nil, List.length_cons] at hl; omega) (by decide)) (sr_x_next g hn ok hX _ (fun _ f1 => br_t rfl (H _ _ _ _ _ _)) (fun s2 z => nomatch (hC0.symm.trans z))))
  | cons s' l ih =>
    intro s e va ho dn tT tS hC hn ok hX hl H
    obtain ⟨ok', hn'⟩ := sr_nx_ok s.2 s' hn ok hC.1
    have hl' : (e + 1) + l.length + 1 < 1000000 := by simp only [List.length_cons] at hl; omega
    have H' : ∀ f va' ho' dn' tT' tS', post (nI (e + 1 + l.length + 1)) (f, K, O, L, B, va', ho', dn', tT', tS') := by
      have q : e + (l.length + 1) + 1 = e + 1 + l.length + 1 := by omega
      rw [List.length_cons, q] at H
      exact H
    exact nm_r (nI_1 e) (br_f (nI_ge (b := 1000000) (by simp only [List.length_nil, List.length_cons] at hl; omega) (by decide)) (sr_x_next g hn ok hX _ (fun z => nomatch (hC.1.symm.trans z)) (fun s2 z va' ho' dn' tT' tS' hX' => by cases Option.some.inj (hC.1.symm.trans z); exact br_f (by decide) (ih s' (e + 1) va' ho' dn' tT' tS' hC.2 hn' ok' hX' hl' H'))))
theorem sr_x_cls8 {K O L B : Nat → Int32} (g : sr_gd K O L) (post : Int32 → SX → Prop) : ∀ (l : List ((Nat → Nat) × Nat)) (s : (Nat → Nat) × Nat) (c e : Nat) (va ho dn tT tS : Nat → Int32), sr_Ch K O L B s l → s.2 ≤ 12 → sr_ok K O L B s.1 s.2 → sr_XI K O B s.1 s.2 va ho dn tT tS → e + l.length + 1 < 1000000 →
    (∀ f va' ho' dn' tT' tS', post (nI (c + sr_cc (fun q => sr_fs K O B q.1 q.2) (s :: l))) (f, K, O, L, B, va', ho', dn', tT', tS')) → wX_classes_8 post (l.length + 1) (nI c) (nI e) (nI s.2) K O L B va ho dn tT tS := by
  intro l
  induction l with
  | nil =>
    intro s c e va ho dn tT tS hC hn ok hX hl H
    have hC0 : sr_nx K O L B s.1 s.2 = none := hC
    have key : ∀ k : Nat, (∀ f va' ho' dn' tT' tS', post (nI k) (f, K, O, L, B, va', ho', dn', tT', tS')) → wX_classes_18 post (wX_classes_8 post 0) (nI k) (nI e) (nI s.2) K O L B va ho dn tT tS := by
      intro k h
      exact nm_r (nI_1 e) (br_f (nI_ge (b := 1000000) (by simp only [List.length_nil, List.length_cons] at hl; omega) (by decide)) (sr_x_next g hn ok hX _ (fun _ f1 => br_t rfl (h _ _ _ _ _ _)) (fun s2 z => nomatch (hC0.symm.trans z))))
    refine sr_x_fs g hn ok hX _ (fun y => br_f (by decide) (nm_r (nI_1 c) (key (c + 1) ?_))) (fun y => br_t rfl (key c ?_))
    · have q : c + sr_cc (fun q => sr_fs K O B q.1 q.2) [s] = c + 1 := by
        show c + ((if sr_fs K O B s.1 s.2 = true then 1 else 0) + 0) = _
        rw [if_pos y]
      rw [q] at H
      exact H
    · have q : c + sr_cc (fun q => sr_fs K O B q.1 q.2) [s] = c := by
        show c + ((if sr_fs K O B s.1 s.2 = true then 1 else 0) + 0) = _
        rw [if_neg (by rw [y]; decide)]
        rfl
      rw [q] at H
      exact H
  | cons s' l ih =>
    intro s c e va ho dn tT tS hC hn ok hX hl H
    obtain ⟨ok', hn'⟩ := sr_nx_ok s.2 s' hn ok hC.1
    have hl' : (e + 1) + l.length + 1 < 1000000 := by simp only [List.length_cons] at hl; omega
    have key : ∀ k : Nat, (∀ f va' ho' dn' tT' tS', post (nI (k + sr_cc (fun q => sr_fs K O B q.1 q.2) (s' :: l))) (f, K, O, L, B, va', ho', dn', tT', tS')) → wX_classes_18 post (wX_classes_8 post (l.length + 1)) (nI k) (nI e) (nI s.2) K O L B va ho dn tT tS := by
      intro k h
      exact nm_r (nI_1 e) (br_f (nI_ge (b := 1000000) (by simp only [List.length_nil, List.length_cons] at hl; omega) (by decide)) (sr_x_next g hn ok hX _ (fun z => nomatch (hC.1.symm.trans z)) (fun s2 z va' ho' dn' tT' tS' hX' => by cases Option.some.inj (hC.1.symm.trans z); exact br_f (by decide) (ih s' k (e + 1) va' ho' dn' tT' tS' hC.2 hn' ok' hX' hl' h))))
    refine sr_x_fs g hn ok hX _ (fun y => br_f (by decide) (nm_r (nI_1 c) (key (c + 1) ?_))) (fun y => br_t rfl (key c ?_))
    · have q : c + sr_cc (fun q => sr_fs K O B q.1 q.2) (s :: s' :: l) = c + 1 + sr_cc (fun q => sr_fs K O B q.1 q.2) (s' :: l) := by
        show c + ((if sr_fs K O B s.1 s.2 = true then 1 else 0) + _) = _
        rw [if_pos y, Nat.add_assoc]
      rw [q] at H
      exact H
    · have q : c + sr_cc (fun q => sr_fs K O B q.1 q.2) (s :: s' :: l) = c + sr_cc (fun q => sr_fs K O B q.1 q.2) (s' :: l) := by
        show c + ((if sr_fs K O B s.1 s.2 = true then 1 else 0) + _) = _
        rw [if_neg (by rw [y]; decide), Nat.zero_add]
      rw [q] at H
      exact H
theorem sr_x_stk6 {K O L B : Nat → Int32} (g : sr_gd K O L) (post : Int32 → SX → Prop) : ∀ (l : List ((Nat → Nat) × Nat)) (s : (Nat → Nat) × Nat) (e : Nat) (va ho dn tT tS : Nat → Int32), sr_Ch K O L B s l → s.2 ≤ 12 → sr_ok K O L B s.1 s.2 → sr_XI K O B s.1 s.2 va ho dn tT tS → e + l.length + 1 < 1000000 →
    (∀ f va' ho' dn' tT' tS', post (sr_b (sr_an (sr_sk K O L B) (s :: l))) (f, K, O, L, B, va', ho', dn', tT', tS')) → wX_canStick_6 post (l.length + 1) (nI e) (nI s.2) K O L B va ho dn tT tS := by
  intro l
  induction l with
  | nil =>
    intro s e va ho dn tT tS hC hn ok hX hl H
    have hC0 : sr_nx K O L B s.1 s.2 = none := hC
    have h1 : (sr_sk K O L B) s = true → ∀ f va' ho' dn' tT' tS', post 1 (f, K, O, L, B, va', ho', dn', tT', tS') := by
      intro yy
      have q : sr_b (sr_an (sr_sk K O L B) (s :: [])) = 1 := by
        show sr_b ((sr_sk K O L B) s || _) = 1
        rw [yy]; rfl
      rw [q] at H
      exact H
    have h0 : (sr_sk K O L B) s = false → ∀ f va' ho' dn' tT' tS', post (0) (f, K, O, L, B, va', ho', dn', tT', tS') := by
      intro yy
      have q : sr_b (sr_an (sr_sk K O L B) (s :: [])) = 0 := by
        show sr_b ((sr_sk K O L B) s || _) = _
        rw [yy]; rfl
      rw [q] at H
      exact H
    exact sr_x_stuck g hn hX ok _ (fun y => br_f (by decide) (h1 y _ _ _ _ _ _)) (fun y => br_t rfl (nm_r (nI_1 e) (br_f (nI_ge (b := 1000000) (by simp only [List.length_nil, List.length_cons] at hl; omega) (by decide)) (sr_x_next g hn ok hX _ (fun _ f1 => br_t rfl (h0 y _ _ _ _ _ _)) (fun s2 z => nomatch (hC0.symm.trans z))))))
  | cons s' l ih =>
    intro s e va ho dn tT tS hC hn ok hX hl H
    obtain ⟨ok', hn'⟩ := sr_nx_ok s.2 s' hn ok hC.1
    have hl' : (e + 1) + l.length + 1 < 1000000 := by simp only [List.length_cons] at hl; omega
    have h1 : (sr_sk K O L B) s = true → ∀ f va' ho' dn' tT' tS', post 1 (f, K, O, L, B, va', ho', dn', tT', tS') := by
      intro yy
      have q : sr_b (sr_an (sr_sk K O L B) (s :: s' :: l)) = 1 := by
        show sr_b ((sr_sk K O L B) s || _) = 1
        rw [yy]; rfl
      rw [q] at H
      exact H
    have h0 : (sr_sk K O L B) s = false → ∀ f va' ho' dn' tT' tS', post (sr_b (sr_an (sr_sk K O L B) (s' :: l))) (f, K, O, L, B, va', ho', dn', tT', tS') := by
      intro yy
      have q : sr_b (sr_an (sr_sk K O L B) (s :: s' :: l)) = sr_b (sr_an (sr_sk K O L B) (s' :: l)) := by
        show sr_b ((sr_sk K O L B) s || _) = _
        rw [yy]; rfl
      rw [q] at H
      exact H
    exact sr_x_stuck g hn hX ok _ (fun y => br_f (by decide) (h1 y _ _ _ _ _ _)) (fun y => br_t rfl (nm_r (nI_1 e) (br_f (nI_ge (b := 1000000) (by simp only [List.length_nil, List.length_cons] at hl; omega) (by decide)) (sr_x_next g hn ok hX _ (fun z => nomatch (hC.1.symm.trans z)) (fun s2 z va' ho' dn' tT' tS' hX' => by cases Option.some.inj (hC.1.symm.trans z); exact br_f (by decide) (ih s' (e + 1) va' ho' dn' tT' tS' hC.2 hn' ok' hX' hl' (h0 y)))))))
theorem sr_x_ce7 {K O L B : Nat → Int32} (g : sr_gd K O L) (post : Int32 → SX → Prop) {x y : Nat} {a b : Int32} (hx : x < 3) (hy : y < 3) : ∀ (l : List ((Nat → Nat) × Nat)) (s : (Nat → Nat) × Nat) (e : Nat) (va ho dn tT tS : Nat → Int32), sr_Ch K O L B s l → s.2 ≤ 12 → sr_ok K O L B s.1 s.2 → sr_XI K O B s.1 s.2 va ho dn tT tS → e + l.length + 1 < 1000000 →
    (∀ f va' ho' dn' tT' tS', post (sr_b (sr_an (sr_eb K O B x y a b) (s :: l))) (f, K, O, L, B, va', ho', dn', tT', tS')) → wX_canEndWith_7 post (nI x) a (nI y) b (l.length + 1) (nI e) (nI s.2) K O L B va ho dn tT tS := by
  intro l
  induction l with
  | nil =>
    intro s e va ho dn tT tS hC hn ok hX hl H
    have hC0 : sr_nx K O L B s.1 s.2 = none := hC
    have h1 : (sr_eb K O B x y a b) s = true → ∀ f va' ho' dn' tT' tS', post 1 (f, K, O, L, B, va', ho', dn', tT', tS') := by
      intro yy
      have q : sr_b (sr_an (sr_eb K O B x y a b) (s :: [])) = 1 := by
        show sr_b ((sr_eb K O B x y a b) s || _) = 1
        rw [yy]; rfl
      rw [q] at H
      exact H
    have h0 : (sr_eb K O B x y a b) s = false → ∀ f va' ho' dn' tT' tS', post (0) (f, K, O, L, B, va', ho', dn', tT', tS') := by
      intro yy
      have q : sr_b (sr_an (sr_eb K O B x y a b) (s :: [])) = 0 := by
        show sr_b ((sr_eb K O B x y a b) s || _) = _
        rw [yy]; rfl
      rw [q] at H
      exact H
    have key : (sr_eb K O B x y a b) s = false → wX_canEndWith_28 post (wX_canEndWith_7 post (nI x) a (nI y) b (0)) (nI x) a (nI y) b (nI e) (nI s.2) K O L B va ho dn tT tS := by
      intro w
      exact nm_r (nI_1 e) (br_f (nI_ge (b := 1000000) (by simp only [List.length_nil, List.length_cons] at hl; omega) (by decide)) (sr_x_next g hn ok hX _ (fun _ f1 => br_t rfl (h0 w _ _ _ _ _ _)) (fun s2 z => nomatch (hC0.symm.trans z))))
    rw [wX_canEndWith_7]
    exact sr_x_vn (x := x) hn (by omega) hX _ (br_c (fun z => sr_x_vn (x := y) hn (by omega) hX _ (br_c (fun z2 => h1 (decide_eq_true ⟨z, z2⟩) _ _ _ _ _ _) (fun z2 => key (decide_eq_false (fun q => z2 q.2))))) (fun z => key (decide_eq_false (fun q => z q.1))))
  | cons s' l ih =>
    intro s e va ho dn tT tS hC hn ok hX hl H
    obtain ⟨ok', hn'⟩ := sr_nx_ok s.2 s' hn ok hC.1
    have hl' : (e + 1) + l.length + 1 < 1000000 := by simp only [List.length_cons] at hl; omega
    have h1 : (sr_eb K O B x y a b) s = true → ∀ f va' ho' dn' tT' tS', post 1 (f, K, O, L, B, va', ho', dn', tT', tS') := by
      intro yy
      have q : sr_b (sr_an (sr_eb K O B x y a b) (s :: s' :: l)) = 1 := by
        show sr_b ((sr_eb K O B x y a b) s || _) = 1
        rw [yy]; rfl
      rw [q] at H
      exact H
    have h0 : (sr_eb K O B x y a b) s = false → ∀ f va' ho' dn' tT' tS', post (sr_b (sr_an (sr_eb K O B x y a b) (s' :: l))) (f, K, O, L, B, va', ho', dn', tT', tS') := by
      intro yy
      have q : sr_b (sr_an (sr_eb K O B x y a b) (s :: s' :: l)) = sr_b (sr_an (sr_eb K O B x y a b) (s' :: l)) := by
        show sr_b ((sr_eb K O B x y a b) s || _) = _
        rw [yy]; rfl
      rw [q] at H
      exact H
    have key : (sr_eb K O B x y a b) s = false → wX_canEndWith_28 post (wX_canEndWith_7 post (nI x) a (nI y) b (l.length + 1)) (nI x) a (nI y) b (nI e) (nI s.2) K O L B va ho dn tT tS := by
      intro w
      exact nm_r (nI_1 e) (br_f (nI_ge (b := 1000000) (by simp only [List.length_nil, List.length_cons] at hl; omega) (by decide)) (sr_x_next g hn ok hX _ (fun z => nomatch (hC.1.symm.trans z)) (fun s2 z va' ho' dn' tT' tS' hX' => by cases Option.some.inj (hC.1.symm.trans z); exact br_f (by decide) (ih s' (e + 1) va' ho' dn' tT' tS' hC.2 hn' ok' hX' hl' (h0 w)))))
    rw [wX_canEndWith_7]
    exact sr_x_vn (x := x) hn (by omega) hX _ (br_c (fun z => sr_x_vn (x := y) hn (by omega) hX _ (br_c (fun z2 => h1 (decide_eq_true ⟨z, z2⟩) _ _ _ _ _ _) (fun z2 => key (decide_eq_false (fun q => z2 q.2))))) (fun z => key (decide_eq_false (fun q => z q.1))))
theorem sr_x_ra21 {K O L B : Nat → Int32} (g : sr_gd K O L) (post : Int32 → SX → Prop) {x : Nat} {a : Int32} (hx : x < 3) : ∀ (l : List ((Nat → Nat) × Nat)) (s : (Nat → Nat) × Nat) (e : Nat) (va ho dn tT tS : Nat → Int32), sr_Ch K O L B s l → s.2 ≤ 12 → sr_ok K O L B s.1 s.2 → sr_XI K O B s.1 s.2 va ho dn tT tS → e + l.length + 1 < 1000000 →
    (∀ f va' ho' dn' tT' tS', post (sr_b (sr_an (fun q => !decide (sr_vl K O B x q = a)) (s :: l))) (f, K, O, L, B, va', ho', dn', tT', tS')) → wX_races_21 post (nI x) a (l.length + 1) (nI e) (nI s.2) K O L B va ho dn tT tS := by
  intro l
  induction l with
  | nil =>
    intro s e va ho dn tT tS hC hn ok hX hl H
    have hC0 : sr_nx K O L B s.1 s.2 = none := hC
    have h1 : (fun q => !decide (sr_vl K O B x q = a)) s = true → ∀ f va' ho' dn' tT' tS', post 1 (f, K, O, L, B, va', ho', dn', tT', tS') := by
      intro yy
      have q : sr_b (sr_an (fun q => !decide (sr_vl K O B x q = a)) (s :: [])) = 1 := by
        show sr_b ((fun q => !decide (sr_vl K O B x q = a)) s || _) = 1
        rw [yy]; rfl
      rw [q] at H
      exact H
    have h0 : (fun q => !decide (sr_vl K O B x q = a)) s = false → ∀ f va' ho' dn' tT' tS', post (0) (f, K, O, L, B, va', ho', dn', tT', tS') := by
      intro yy
      have q : sr_b (sr_an (fun q => !decide (sr_vl K O B x q = a)) (s :: [])) = 0 := by
        show sr_b ((fun q => !decide (sr_vl K O B x q = a)) s || _) = _
        rw [yy]; rfl
      rw [q] at H
      exact H
    rw [wX_races_21]
    refine sr_x_vn (x := x) hn (by omega) hX _ (br_c (fun z => ?_) (fun z => h1 (by show (!decide (sr_vl K O B x s = a)) = true; rw [decide_eq_false z]; rfl) _ _ _ _ _ _))
    have y : (fun q => !decide (sr_vl K O B x q = a)) s = false := by show (!decide (sr_vl K O B x s = a)) = false; rw [decide_eq_true z]; rfl
    exact nm_r (nI_1 e) (br_f (nI_ge (b := 1000000) (by simp only [List.length_nil, List.length_cons] at hl; omega) (by decide)) (sr_x_next g hn ok hX _ (fun _ f1 => br_t rfl (h0 y _ _ _ _ _ _)) (fun s2 z => nomatch (hC0.symm.trans z))))
  | cons s' l ih =>
    intro s e va ho dn tT tS hC hn ok hX hl H
    obtain ⟨ok', hn'⟩ := sr_nx_ok s.2 s' hn ok hC.1
    have hl' : (e + 1) + l.length + 1 < 1000000 := by simp only [List.length_cons] at hl; omega
    have h1 : (fun q => !decide (sr_vl K O B x q = a)) s = true → ∀ f va' ho' dn' tT' tS', post 1 (f, K, O, L, B, va', ho', dn', tT', tS') := by
      intro yy
      have q : sr_b (sr_an (fun q => !decide (sr_vl K O B x q = a)) (s :: s' :: l)) = 1 := by
        show sr_b ((fun q => !decide (sr_vl K O B x q = a)) s || _) = 1
        rw [yy]; rfl
      rw [q] at H
      exact H
    have h0 : (fun q => !decide (sr_vl K O B x q = a)) s = false → ∀ f va' ho' dn' tT' tS', post (sr_b (sr_an (fun q => !decide (sr_vl K O B x q = a)) (s' :: l))) (f, K, O, L, B, va', ho', dn', tT', tS') := by
      intro yy
      have q : sr_b (sr_an (fun q => !decide (sr_vl K O B x q = a)) (s :: s' :: l)) = sr_b (sr_an (fun q => !decide (sr_vl K O B x q = a)) (s' :: l)) := by
        show sr_b ((fun q => !decide (sr_vl K O B x q = a)) s || _) = _
        rw [yy]; rfl
      rw [q] at H
      exact H
    rw [wX_races_21]
    refine sr_x_vn (x := x) hn (by omega) hX _ (br_c (fun z => ?_) (fun z => h1 (by show (!decide (sr_vl K O B x s = a)) = true; rw [decide_eq_false z]; rfl) _ _ _ _ _ _))
    have y : (fun q => !decide (sr_vl K O B x q = a)) s = false := by show (!decide (sr_vl K O B x s = a)) = false; rw [decide_eq_true z]; rfl
    exact nm_r (nI_1 e) (br_f (nI_ge (b := 1000000) (by simp only [List.length_nil, List.length_cons] at hl; omega) (by decide)) (sr_x_next g hn ok hX _ (fun z => nomatch (hC.1.symm.trans z)) (fun s2 z va' ho' dn' tT' tS' hX' => by cases Option.some.inj (hC.1.symm.trans z); exact br_f (by decide) (ih s' (e + 1) va' ho' dn' tT' tS' hC.2 hn' ok' hX' hl' (h0 y)))))
theorem sr_x_ex13 {K O L B : Nat → Int32} (g : sr_gd K O L) (post : Int32 → SX → Prop) {x : Nat} {w : Bool} (hx : x < 6) : ∀ (l : List ((Nat → Nat) × Nat)) (s : (Nat → Nat) × Nat) (m : Int32) (e : Nat) (va ho dn tT tS : Nat → Int32), sr_Ch K O L B s l → s.2 ≤ 12 → sr_ok K O L B s.1 s.2 → sr_XI K O B s.1 s.2 va ho dn tT tS → e + l.length + 1 < 1000000 →
    (∀ f va' ho' dn' tT' tS', post (sr_fo w (sr_vl K O B x) m (s :: l)) (f, K, O, L, B, va', ho', dn', tT', tS')) → wX_extremeOfCell_13 post (nI x) (sr_b w) (l.length + 1) (nI e) m (nI s.2) K O L B va ho dn tT tS := by
  intro l
  induction l with
  | nil =>
    intro s m e va ho dn tT tS hC hn ok hX hl H
    have hC0 : sr_nx K O L B s.1 s.2 = none := hC
    have key : ∀ k : Int32, (∀ f va' ho' dn' tT' tS', post (sr_fo w (sr_vl K O B x) (k) ([])) (f, K, O, L, B, va', ho', dn', tT', tS')) → wX_extremeOfCell_45 post (wX_extremeOfCell_13 post (nI x) (sr_b w) (0)) (nI x) (sr_b w) (nI e) k (nI s.2) K O L B va ho dn tT tS := by
      intro k h
      exact nm_r (nI_1 e) (br_f (nI_ge (b := 1000000) (by simp only [List.length_nil, List.length_cons] at hl; omega) (by decide)) (sr_x_next g hn ok hX _ (fun _ f1 => br_t rfl (h _ _ _ _ _ _)) (fun s2 z => nomatch (hC0.symm.trans z))))
    have H' : ∀ k, sr_ex w m (sr_vl K O B x s) = k → ∀ f va' ho' dn' tT' tS', post (sr_fo w (sr_vl K O B x) (k) ([])) (f, K, O, L, B, va', ho', dn', tT', tS') := by
      intro k hk
      subst hk
      exact H
    rw [wX_extremeOfCell_13]
    refine sr_x_vn hn hx hX _ ?_
    cases w with
    | false => exact br_t rfl (br_c (fun z => key m (H' m (if_pos z))) (fun z => key _ (H' _ (if_neg z))))
    | true => exact br_f (by decide) (br_c (fun z => key m (H' m (if_pos z))) (fun z => key _ (H' _ (if_neg z))))
  | cons s' l ih =>
    intro s m e va ho dn tT tS hC hn ok hX hl H
    obtain ⟨ok', hn'⟩ := sr_nx_ok s.2 s' hn ok hC.1
    have hl' : (e + 1) + l.length + 1 < 1000000 := by simp only [List.length_cons] at hl; omega
    have key : ∀ k : Int32, (∀ f va' ho' dn' tT' tS', post (sr_fo w (sr_vl K O B x) (k) (s' :: l)) (f, K, O, L, B, va', ho', dn', tT', tS')) → wX_extremeOfCell_45 post (wX_extremeOfCell_13 post (nI x) (sr_b w) (l.length + 1)) (nI x) (sr_b w) (nI e) k (nI s.2) K O L B va ho dn tT tS := by
      intro k h
      exact nm_r (nI_1 e) (br_f (nI_ge (b := 1000000) (by simp only [List.length_nil, List.length_cons] at hl; omega) (by decide)) (sr_x_next g hn ok hX _ (fun z => nomatch (hC.1.symm.trans z)) (fun s2 z va' ho' dn' tT' tS' hX' => by cases Option.some.inj (hC.1.symm.trans z); exact br_f (by decide) (ih s' k (e + 1) va' ho' dn' tT' tS' hC.2 hn' ok' hX' hl' h))))
    have H' : ∀ k, sr_ex w m (sr_vl K O B x s) = k → ∀ f va' ho' dn' tT' tS', post (sr_fo w (sr_vl K O B x) (k) (s' :: l)) (f, K, O, L, B, va', ho', dn', tT', tS') := by
      intro k hk
      subst hk
      exact H
    rw [wX_extremeOfCell_13]
    refine sr_x_vn hn hx hX _ ?_
    cases w with
    | false => exact br_t rfl (br_c (fun z => key m (H' m (if_pos z))) (fun z => key _ (H' _ (if_neg z))))
    | true => exact br_f (by decide) (br_c (fun z => key m (H' m (if_pos z))) (fun z => key _ (H' _ (if_neg z))))
