/-! touching steps, and the first schedule of its class -/
def sr_b (b : Bool) : Int32 := if b = true then 1 else 0
theorem sr_b_n (b : Bool) : narrow .boolean (.int (sr_b b)) = .int (sr_b b) := by cases b <;> rfl
def sr_tc (K O : Nat → Int32) (i j : Nat) : Bool :=
  decide (O i = O j ∧ (((K i).toNatClampNeg ≤ 2 ∧ (K j).toNatClampNeg ≤ 2 ∧ ¬ ((K i).toNatClampNeg = 0 ∧ (K j).toNatClampNeg = 0)) ∨ (4 ≤ (K i).toNatClampNeg ∧ 4 ≤ (K j).toNatClampNeg)))
def sr_sd (K O B : Nat → Int32) (p : Nat → Nat) (d : Nat) : Nat := 4 * p d + (sr_run K O B p d).2.1 (p d)
def sr_cb (K O B : Nat → Int32) (p : Nat → Nat) (j : Nat) : Nat → Bool
  | 0 => false
  | i + 1 => if p i = p j then false else if sr_tc K O (sr_sd K O B p i) (sr_sd K O B p j) = true then false else if p j < p i then true else sr_cb K O B p j i
def sr_fs (K O B : Nat → Int32) (p : Nat → Nat) : Nat → Bool
  | 0 => true
  | n + 1 => sr_fs K O B p n && !sr_cb K O B p n n
theorem sr_fs_f {K O B : Nat → Int32} {p : Nat → Nat} {j : Nat} (h : sr_cb K O B p j j = true) : ∀ n, j < n → sr_fs K O B p n = false := by
  intro n
  induction n with
  | zero => intro h; omega
  | succ n ih =>
    intro hn
    show (sr_fs K O B p n && !sr_cb K O B p n n) = false
    by_cases z : j = n
    · subst z; rw [h]; exact Bool.and_false _
    · rw [ih (by omega)]; rfl
theorem sr_fs_t {K O B : Nat → Int32} {p : Nat → Nat} {j : Nat} (h : sr_cb K O B p j j = false) (hj : sr_fs K O B p j = true) : sr_fs K O B p (j + 1) = true := by
  show (sr_fs K O B p j && !sr_cb K O B p j j) = true
  rw [h, hj]; rfl
theorem sr_sd_lt {K O L B : Nat → Int32} {p : Nat → Nat} {n d : Nat} (g : sr_gd K O L) (ok : sr_ok K O L B p n) (hd : d < n) : sr_sd K O B p d < 12 := by
  obtain ⟨hp, hA⟩ := ok d hd
  obtain ⟨m, hm, eL⟩ := g.1 _ hp
  have := sr_ab_lt hA
  rw [eL, nI_clamp (by omega)] at this
  unfold sr_sd
  omega
theorem sr_x_acc {a : Nat} {x : Int32} (ha : a ≤ 5) (hx : x = nI a) (post : Int32 → Prop) (h1 : a ≤ 2 → post 1) (h0 : ¬ a ≤ 2 → post 0) : wpX_isAccess post x :=
  pk_eq a 0 (fun _ => h1 (by omega)) (fun _ => pk_eq a 1 (fun _ => h1 (by omega)) (fun _ => pk_eq a 2 (fun _ => h1 (by omega)) (fun _ => h0 (by omega)) hx) hx) hx
theorem sr_x_lck {a : Nat} {x : Int32} (ha : a ≤ 5) (hx : x = nI a) (post : Int32 → Prop) (h1 : 4 ≤ a → post 1) (h0 : ¬ 4 ≤ a → post 0) : wpX_isLocking post x :=
  pk_eq a 4 (fun _ => h1 (by omega)) (fun _ => pk_eq a 5 (fun _ => h1 (by omega)) (fun _ => h0 (by omega)) hx) hx
theorem sr_x_t65 {K O L B va ho dn tT tS : Nat → Int32} {f0 : Int32} {i j a b : Nat} (hi : i < 12) (hj : j < 12) (ha : a ≤ 5) (hb : b ≤ 5) (ea : K (nI i).toNatClampNeg = nI a) (eb : K (nI j).toNatClampNeg = nI b) (post : Int32 → Prop) (h1 : 4 ≤ a ∧ 4 ≤ b → post 1) (h0 : ¬ (4 ≤ a ∧ 4 ≤ b) → post 0) :
    wX_touch_65 post (nI i) (nI j) f0 K O L B va ho dn tT tS :=
  ⟨pk_in i 12 hi, sr_x_lck ha ea _ (fun z => br_f (by decide) ⟨pk_in j 12 hj, sr_x_lck hb eb _ (fun y => br_f (by decide) (h1 ⟨z, y⟩)) (fun y => br_t rfl (h0 (by omega)))⟩) (fun z => br_t rfl (h0 (by omega)))⟩
theorem sr_x_touch {K O L B va ho dn tT tS : Nat → Int32} {f0 : Int32} {i j : Nat} (g : sr_gd K O L) (hi : i < 12) (hj : j < 12) (post : Int32 → Prop) (h1 : sr_tc K O i j = true → post 1) (h0 : sr_tc K O i j = false → post 0) :
    wpX_touch post (f0, K, O, L, B, va, ho, dn, tT, tS) (nI i) (nI j) := by
  obtain ⟨a, ha, eKa, _, _⟩ := g.2 i hi
  obtain ⟨b, hb, eKb, _, _⟩ := g.2 j hj
  have ea : K (nI i).toNatClampNeg = nI a := by rw [nI_clamp (by omega), eKa]
  have eb : K (nI j).toNatClampNeg = nI b := by rw [nI_clamp (by omega), eKb]
  have ci : (nI i).toNatClampNeg = i := nI_clamp (by omega)
  have cj : (nI j).toNatClampNeg = j := nI_clamp (by omega)
  unfold sr_tc at h1 h0
  rw [eKa, eKb, nI_clamp (n := a) (by omega), nI_clamp (n := b) (by omega)] at h1 h0
  refine ⟨pk_in i 12 hi, pk_in j 12 hj, br_c (fun z => ⟨pk_in i 12 hi, ?_⟩) (fun z => h0 (decide_eq_false (fun y => z (by rw [ci, cj]; exact y.1))))⟩
  rw [ci, cj] at z
  have t1 : (a ≤ 2 ∧ b ≤ 2 ∧ ¬ (a = 0 ∧ b = 0)) ∨ (4 ≤ a ∧ 4 ≤ b) → post 1 := fun y => h1 (decide_eq_true ⟨z, y⟩)
  have t0 : ¬ ((a ≤ 2 ∧ b ≤ 2 ∧ ¬ (a = 0 ∧ b = 0)) ∨ (4 ≤ a ∧ 4 ≤ b)) → post 0 := fun y => h0 (decide_eq_false (fun w => y w.2))
  refine sr_x_acc ha ea _ (fun ya => br_f (by decide) ⟨pk_in j 12 hj, sr_x_acc hb eb _ (fun yb => br_f (by decide) ⟨pk_in i 12 hi, pk_eq a 0 (fun a0 => ⟨pk_in j 12 hj, pk_eq b 0 (fun b0 => t0 (by omega)) (fun b0 => t1 (by omega)) eb⟩) (fun a0 => t1 (by omega)) ea⟩) (fun yb => br_t rfl (sr_x_t65 hi hj ha hb ea eb post (fun w => t1 (by omega)) (fun w => t0 (by omega))))⟩) (fun ya => br_t rfl (sr_x_t65 hi hj ha hb ea eb post (fun w => t1 (by omega)) (fun w => t0 (by omega))))
theorem sr_x_cb {K O L B va ho dn tT tS : Nat → Int32} {f0 : Int32} (g : sr_gd K O L) {p : Nat → Nat} {n j : Nat} (hn : n ≤ 12) (ok : sr_ok K O L B p n) (hT : ∀ d, d < n → tT d = nI (p d) ∧ tS d = nI (sr_sd K O B p d)) (hj : j < n) (post : Int32 → Prop) :
    ∀ (i : Nat) (x3 : Int32), i ≤ j → x3 = nI i - 1 → (sr_cb K O B p j i = true → post 1) → (sr_cb K O B p j i = false → post 0) → wX_canComeBeforeGreater_11 post (nI j) (nI (p j)) f0 K O L B va ho dn tT tS (i + 1) x3 := by
  intro i
  induction i with
  | zero =>
    intro x3 _ e h1 h0
    subst e
    exact br_t (by decide) (h0 rfl)
  | succ i ih =>
    intro x3 hi e h1 h0
    rw [nI_pred] at e
    subst e
    have ep : tT (nI i).toNatClampNeg = nI (p i) := by rw [nI_clamp (by omega), (hT i (by omega)).1]
    have es : tS (nI i).toNatClampNeg = nI (sr_sd K O B p i) := by rw [nI_clamp (by omega), (hT i (by omega)).2]
    have es2 : tS (nI j).toNatClampNeg = nI (sr_sd K O B p j) := by rw [nI_clamp (by omega), (hT j (by omega)).2]
    have hpi := (ok i (by omega)).1
    have hpj := (ok j hj).1
    have ii : vp_in (nI i) 12 := pk_in i 12 (by omega)
    unfold sr_cb at h1 h0
    refine br_f (nI_pos (by omega)) ⟨ii, pk_eq (p i) (p j) (fun z => ?_) (fun z => ⟨ii, pk_in j 12 (by omega), ?_⟩) ep⟩
    · rw [if_pos z] at h0
      exact h0 rfl
    · rw [if_neg z] at h1 h0
      rw [es, es2]
      refine sr_x_touch g (sr_sd_lt g ok (by omega)) (sr_sd_lt g ok hj) _ (fun y => ?_) (fun y => ?_)
      · rw [if_pos y] at h0
        exact br_f (by decide) (h0 rfl)
      · have y' : ¬ sr_tc K O (sr_sd K O B p i) (sr_sd K O B p j) = true := by rw [y]; decide
        rw [if_neg y'] at h1 h0
        refine br_t rfl ⟨ii, pk_le (p i) (p j) (fun w => ?_) (fun w => ?_) ep⟩
        · rw [if_neg (by omega)] at h1 h0
          exact nm_r (sr_m1 _) (ih _ (by omega) rfl h1 h0)
        · rw [if_pos w] at h1
          exact h1 rfl
theorem sr_x_fs2 {K O L B va ho dn tT tS : Nat → Int32} (g : sr_gd K O L) {p : Nat → Nat} {n : Nat} (hn : n ≤ 12) (ok : sr_ok K O L B p n) (hT : ∀ d, d < n → tT d = nI (p d) ∧ tS d = nI (sr_sd K O B p d)) (post : Int32 → Prop) (h1 : sr_fs K O B p n = true → post 1) (h0 : sr_fs K O B p n = false → post 0) :
    ∀ (r j : Nat), j + r = n → sr_fs K O B p j = true → wX_isFirstOfItsClass_2 post (nI n) K O L B va ho dn tT tS (r + 1) (nI j) := by
  intro r
  induction r with
  | zero =>
    intro j hj hf
    have z : j = n := by omega
    subst z
    exact br_t (Int32.le_refl _) (h1 hf)
  | succ r ih =>
    intro j hj hf
    refine br_f (nI_ge (by omega) (by omega)) ⟨pk_in j 12 (by omega), nm_r (e' := nI (p j)) (by rw [nI_clamp (by omega), (hT j (by omega)).1]) (nm_e ⟨j + 1, sr_x_cb g hn ok hT (by omega) _ j _ (Nat.le_refl _) rfl (fun c => ?_) (fun c => ?_)⟩)⟩
    · exact br_f (by decide) (h0 (sr_fs_f c n (by omega)))
    · exact br_t rfl (nm_r (nI_1 j) (ih (j + 1) (by omega) (sr_fs_t c hf)))
theorem sr_x_fs {K O L B va ho dn tT tS : Nat → Int32} (g : sr_gd K O L) {p : Nat → Nat} {n : Nat} (hn : n ≤ 12) (ok : sr_ok K O L B p n) (hX : sr_XI K O B p n va ho dn tT tS) (post : Int32 → Prop) (h1 : sr_fs K O B p n = true → post 1) (h0 : sr_fs K O B p n = false → post 0) :
    wpX_isFirstOfItsClass post (nI n, K, O, L, B, va, ho, dn, tT, tS) :=
  ⟨n + 1, sr_x_fs2 g hn ok hX.2 post h1 h0 n 0 (by omega) rfl⟩
theorem sr_y_t40 {K O L B va ac ho tu st : Nat → Int32} {f0 z0 : Int32} {i j a b : Nat} (hi : i < 12) (hj : j < 12) (ha : a ≤ 5) (hb : b ≤ 5) (post : Int32 → Prop) (h1 : O i = O j ∧ (¬ z0 = 0 ∨ (4 ≤ a ∧ 4 ≤ b)) → post 1) (h0 : ¬ (O i = O j ∧ (¬ z0 = 0 ∨ (4 ≤ a ∧ 4 ≤ b))) → post 0) :
    wY_touch_40 post (nI i) (nI j) (nI a) (nI b) z0 f0 L K O B tu st va ac ho := by
  have ci : (nI i).toNatClampNeg = i := nI_clamp (by omega)
  have cj : (nI j).toNatClampNeg = j := nI_clamp (by omega)
  refine ⟨pk_in i 12 hi, pk_in j 12 hj, ?_⟩
  rw [ci, cj]
  refine br_c (fun z => br_c (fun y => pk_lt a 4 (fun w => h0 ?_) (fun w => pk_lt b 4 (fun w2 => h0 ?_) (fun w2 => h1 ⟨z, Or.inr ⟨w, w2⟩⟩))) (fun y => h1 ⟨z, Or.inl y⟩)) (fun z => h0 (fun y => z y.1))
  · intro q
    rcases q.2 with q | q
    · exact q y
    · omega
  · intro q
    rcases q.2 with q | q
    · exact q y
    · omega
theorem sr_y_touch {K O L B va ac ho tu st : Nat → Int32} {f0 : Int32} {i j : Nat} (g : sr_gd K O L) (hi : i < 12) (hj : j < 12) (post : Int32 → Prop) (h1 : sr_tc K O i j = true → post 1) (h0 : sr_tc K O i j = false → post 0) :
    wpY_touch post (f0, L, K, O, B, tu, st, va, ac, ho) (nI i) (nI j) := by
  obtain ⟨a, ha, eKa, _, _⟩ := g.2 i hi
  obtain ⟨b, hb, eKb, _, _⟩ := g.2 j hj
  have ea : K (nI i).toNatClampNeg = nI a := by rw [nI_clamp (by omega), eKa]
  have eb : K (nI j).toNatClampNeg = nI b := by rw [nI_clamp (by omega), eKb]
  unfold sr_tc at h1 h0
  rw [eKa, eKb, nI_clamp (n := a) (by omega), nI_clamp (n := b) (by omega)] at h1 h0
  have t0 : ¬ (a ≤ 2 ∧ b ≤ 2 ∧ ¬ (a = 0 ∧ b = 0)) → wY_touch_39 post (nI i) (nI j) (nI a) (nI b) f0 L K O B tu st va ac ho := by
    intro w
    refine sr_y_t40 hi hj ha hb post (fun y => h1 (decide_eq_true ⟨y.1, ?_⟩)) (fun y => h0 (decide_eq_false (fun q => y ⟨q.1, ?_⟩)))
    · rcases y.2 with q | q
      · exact absurd rfl q
      · exact Or.inr q
    · rcases q.2 with q | q
      · exact absurd q w
      · exact Or.inr q
  have t1 : (a ≤ 2 ∧ b ≤ 2 ∧ ¬ (a = 0 ∧ b = 0)) → wY_touch_35 post (nI i) (nI j) (nI a) (nI b) f0 L K O B tu st va ac ho := by
    intro w
    refine sr_y_t40 hi hj ha hb post (fun y => h1 (decide_eq_true ⟨y.1, Or.inl w⟩)) (fun y => h0 (decide_eq_false (fun q => y ⟨q.1, Or.inl (by decide)⟩)))
  refine ⟨pk_in i 12 hi, nm_r ea ⟨pk_in j 12 hj, nm_r eb (pk_lt 2 a (fun y => t0 (by omega)) (fun y => pk_lt 2 b (fun w => t0 (by omega)) (fun w => pk_eq a 0 (fun a0 => pk_eq b 0 (fun b0 => t0 (by omega)) (fun b0 => t1 (by omega))) (fun a0 => t1 (by omega)))))⟩⟩
theorem sr_y_69 {K O L B va ac ho tu st : Nat → Int32} {f0 z0 : Int32} {i j : Nat} {p : Nat → Nat} {b : Bool} (hi : i < 12) (hj : j < 12) (ei : tu i = nI (p i)) (ej : tu j = nI (p j)) (hpi : p i < 3) (hpj : p j < 3) (post : Int32 → Prop) (J4 : Int32 → Int32 → Prop) (J19 : Int32 → Int32 → Int32 → Prop)
    (H : J19 (sr_b (b && !(decide (¬ z0 = 0) && decide (p j < p i)))) z0 (nI i - 1)) : wY_settled_69 post J4 J19 (sr_b b) (nI j) (nI i) z0 f0 L K O B tu st va ac ho := by
  have ti : tu (nI i).toNatClampNeg = nI (p i) := by rw [nI_clamp (by omega), ei]
  have tj : tu (nI j).toNatClampNeg = nI (p j) := by rw [nI_clamp (by omega), ej]
  cases b with
  | false => exact br_t rfl (nm_r (sr_m1 _) H)
  | true =>
    refine br_f (by decide) (br_c (fun z => ?_) (fun z => ⟨pk_in j 12 hj, pk_in i 12 hi, pk_lt (p j) (p i) (fun y => ?_) (fun y => ?_) tj ti⟩))
    · subst z
      exact nm_r (sr_m1 _) H
    · rw [decide_eq_true z, decide_eq_true y] at H
      exact nm_r (sr_m1 _) H
    · have y' : decide (p j < p i) = false := decide_eq_false (by omega)
      rw [decide_eq_true z, y'] at H
      exact nm_r (sr_m1 _) H
theorem sr_y_s19 {K O L B va ac ho tu st : Nat → Int32} {f0 : Int32} (g : sr_gd K O L) {p : Nat → Nat} {n j : Nat} (hn : n ≤ 12) (ok : sr_ok K O L B p n) (hT : ∀ d, d < n → tu d = nI (p d)) (hS : ∀ d, d < n → st d = nI (sr_sd K O B p d)) (hj : j < n) (post : Int32 → Prop) (J4 : Int32 → Int32 → Prop) :
    ∀ (i : Nat) (b : Bool) (x4 : Int32), i ≤ j → x4 = nI i - 1 → J4 (sr_b (b && !sr_cb K O B p j i)) (nI (j + 1)) → wY_settled_19 post J4 (nI j) f0 L K O B tu st va ac ho (i + 1) (sr_b b) 1 x4 := by
  intro i
  induction i with
  | zero =>
    intro b x4 _ e H
    subst e
    have e2 : (b && !sr_cb K O B p j 0) = b := by cases b <;> rfl
    rw [e2] at H
    exact br_t (by decide) (nm_r (nI_1 j) H)
  | succ i ih =>
    intro b x4 hi e H
    rw [nI_pred] at e
    subst e
    have ei := hT i (by omega)
    have ej := hT j hj
    have ep : tu (nI i).toNatClampNeg = nI (p i) := by rw [nI_clamp (by omega), ei]
    have ep2 : tu (nI j).toNatClampNeg = nI (p j) := by rw [nI_clamp (by omega), ej]
    have es : st (nI i).toNatClampNeg = nI (sr_sd K O B p i) := by rw [nI_clamp (by omega), hS i (by omega)]
    have es2 : st (nI j).toNatClampNeg = nI (sr_sd K O B p j) := by rw [nI_clamp (by omega), hS j (by omega)]
    have hpi := (ok i (by omega)).1
    have hpj := (ok j hj).1
    have ii : vp_in (nI i) 12 := pk_in i 12 (by omega)
    have jj : vp_in (nI j) 12 := pk_in j 12 (by omega)
    have fin : ∀ y4 : Int32, J4 (sr_b b) (nI (j + 1)) → wY_settled_19 post J4 (nI j) f0 L K O B tu st va ac ho (i + 1) (sr_b b) 0 y4 := by
      intro y4 h
      exact br_c (fun _ => nm_r (nI_1 j) h) (fun _ => br_t rfl (nm_r (nI_1 j) h))
    have e0 : ∀ q, (b && !(decide (¬ (0 : Int32) = 0) && q)) = b := by intro q; cases b <;> rfl
    unfold sr_cb at H
    refine br_f (nI_pos (by omega)) (br_f (by decide) ⟨ii, jj, pk_eq (p i) (p j) (fun z => ?_) (fun z => ⟨ii, jj, ?_⟩) ep ep2⟩)
    · rw [if_pos z] at H
      have e2 : (b && !false) = b := by cases b <;> rfl
      rw [e2] at H
      refine sr_y_69 (p := p) (by omega) (by omega) ei ej hpi hpj post J4 _ ?_
      rw [e0]
      exact fin _ H
    · rw [if_neg z] at H
      rw [es, es2]
      refine sr_y_touch g (sr_sd_lt g ok (by omega)) (sr_sd_lt g ok hj) _ (fun y => ?_) (fun y => ?_)
      · rw [if_pos y] at H
        have e2 : (b && !false) = b := by cases b <;> rfl
        rw [e2] at H
        refine br_f (by decide) (sr_y_69 (p := p) (by omega) (by omega) ei ej hpi hpj post J4 _ ?_)
        rw [e0]
        exact fin _ H
      · have y' : ¬ sr_tc K O (sr_sd K O B p i) (sr_sd K O B p j) = true := by rw [y]; decide
        rw [if_neg y'] at H
        refine br_t rfl (sr_y_69 (p := p) (by omega) (by omega) ei ej hpi hpj post J4 _ (ih _ _ (by omega) rfl ?_))
        by_cases w : p j < p i
        · rw [if_pos w] at H
          rw [decide_eq_true w]
          have e2 : (b && !(decide (¬ (1 : Int32) = 0) && true) && !sr_cb K O B p j i) = (b && !true) := by
            cases b
            · rfl
            · show (false && _) = false
              rfl
          rw [e2]
          exact H
        · rw [if_neg w] at H
          rw [decide_eq_false w]
          have e2 : (b && !(decide (¬ (1 : Int32) = 0) && false)) = b := by cases b <;> rfl
          rw [e2]
          exact H
theorem sr_y_s4 {K O L B va ac ho tu st : Nat → Int32} (g : sr_gd K O L) {p : Nat → Nat} {n : Nat} (hn : n ≤ 12) (ok : sr_ok K O L B p n) (hT : ∀ d, d < n → tu d = nI (p d)) (hS : ∀ d, d < n → st d = nI (sr_sd K O B p d)) (post : Int32 → Prop) (H : post (sr_b (sr_fs K O B p n))) :
    ∀ (r j : Nat), j + r = n → wY_settled_4 post (nI n) L K O B tu st va ac ho (r + 1) (sr_b (sr_fs K O B p j)) (nI j) := by
  intro r
  induction r with
  | zero =>
    intro j hj
    have z : j = n := by omega
    subst z
    exact br_t (Int32.le_refl _) ⟨sr_b_n _, H⟩
  | succ r ih =>
    intro j hj
    exact br_f (nI_ge (by omega) (by omega)) (nm_e ⟨j + 1, sr_y_s19 g hn ok hT hS (by omega) _ _ j _ _ (Nat.le_refl _) rfl (ih (j + 1) (by omega))⟩)
theorem sr_y_settled {K O L B va ac ho tu st : Nat → Int32} (g : sr_gd K O L) {p : Nat → Nat} {n : Nat} (hn : n ≤ 12) (ok : sr_ok K O L B p n) (hY : sr_YI K O B p n tu st va ac ho) (post : Int32 → Prop) (H : post (sr_b (sr_fs K O B p n))) :
    wpY_settled post (nI n, L, K, O, B, tu, st, va, ac, ho) :=
  ⟨n + 1, sr_y_s4 g hn ok hY.1 hY.2.1 post H n 0 (by omega)⟩
