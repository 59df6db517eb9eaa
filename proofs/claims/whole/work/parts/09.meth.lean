/-! the methods: each side's answer by the pure picture -/
theorem sr_t2 : (2 : Int32).toInt = 2 := by decide
theorem sr_t3 : (3 : Int32).toInt = 3 := by decide
theorem sr_32 {x : Int32} (h : 3 ≤ x) : 2 < x := by
  rw [Int32.le_iff_toInt_le, sr_t3] at h
  rw [Int32.lt_iff_toInt_lt, sr_t2]
  omega
theorem sr_n2 {x : Int32} (h : 3 ≤ x) : ¬ x ≤ 2 := by
  rw [Int32.le_iff_toInt_le, sr_t3] at h
  rw [Int32.le_iff_toInt_le, sr_t2]
  omega
theorem sr_rg (x : Int32) : (x < 0 ∨ 3 ≤ x) ∨ ∃ j, j < 3 ∧ x = nI j := by
  rcases pk_ix x (n := 3) (by decide) with h | h | h
  · exact Or.inl (Or.inl h)
  · exact Or.inl (Or.inr h)
  · exact Or.inr h
theorem sr_x_thr_n {x : Int32} (h : x < 0 ∨ 3 ≤ x) (post : Int32 → Prop) (h0 : post 0) : wpX_isThread post x := br_c (fun _ => h0) (fun z => br_t (h.resolve_left z) h0)
theorem sr_x_thr_y {t : Nat} (h : t < 3) (post : Int32 → Prop) (h1 : post 1) : wpX_isThread post (nI t) := br_f (nI_pos (by omega)) (br_f (nI_ge (b := 3) h (by decide)) h1)
theorem sr_x_var_n {x : Int32} (h : x < 0 ∨ 3 ≤ x) (post : Int32 → Prop) (h0 : post 0) : wpX_isVariable post x := br_c (fun _ => h0) (fun z => br_t (h.resolve_left z) h0)
theorem sr_x_var_y {t : Nat} (h : t < 3) (post : Int32 → Prop) (h1 : post 1) : wpX_isVariable post (nI t) := br_f (nI_pos (by omega)) (br_f (nI_ge (b := 3) h (by decide)) h1)
theorem sr_y_thr_n {v : SY} {x : Int32} (h : x < 0 ∨ 3 ≤ x) (post : Int32 → Prop) (h0 : post 0) : wpY_thread post v x := br_c (fun _ => h0) (fun z => br_t (sr_32 (h.resolve_left z)) h0)
theorem sr_y_thr_y {v : SY} {t : Nat} (h : t < 3) (post : Int32 → Prop) (h1 : post 1) : wpY_thread post v (nI t) := br_f (nI_pos (by omega)) (br_f (nI_nlt (a := 2) (by omega) (by decide)) h1)
theorem sr_xm_sch {K O L B va ho dn tT tS : Nat → Int32} {f0 : Int32} (g : sr_gd K O L) {l : List ((Nat → Nat) × Nat)} (hC : sr_Ch K O L B (sr_first K O L B) l) (hl : l.length < 34650) (post : Int32 → SX → Prop) 
    (H : ∀ f va' ho' dn' tT' tS', post (nI (0 + l.length + 1)) (f, K, O, L, B, va', ho', dn', tT', tS')) : wpX_schedules post (f0, K, O, L, B, va, ho, dn, tT, tS) := by
  obtain ⟨okf, hnf⟩ := sr_first_ok K O L B
  unfold wpX_schedules
  dsimp only
  exact sr_x_first g _ (fun va' ho' dn' tT' tS' hX => ⟨_, sr_x_sch6 g post l (sr_first K O L B) 0 va' ho' dn' tT' tS' hC hnf okf hX (by omega) H⟩)
theorem sr_ym_sch {K O L B tu st va ac ho : Nat → Int32} {f0 : Int32} (g : sr_gd K O L) {l : List ((Nat → Nat) × Nat)} (hC : sr_Ch K O L B (sr_first K O L B) l) (hl : l.length < 34650) (post : Int32 → SY → Prop) 
    (H : ∀ f tu' st' va' ac' ho', post (nI (0 + l.length + 1)) (f, L, K, O, B, tu', st', va', ac', ho')) : wpY_schedules post (f0, L, K, O, B, tu, st, va, ac, ho) := by
  obtain ⟨okf, hnf⟩ := sr_first_ok K O L B
  unfold wpY_schedules
  dsimp only
  exact sr_y_first g _ (fun tu' st' va' ac' ho' hY => ⟨_, sr_y_sch8 g post l (sr_first K O L B) 0 tu' st' va' ac' ho' hC hnf okf hY (by omega) H⟩)
theorem sr_xm_cls {K O L B va ho dn tT tS : Nat → Int32} {f0 : Int32} (g : sr_gd K O L) {l : List ((Nat → Nat) × Nat)} (hC : sr_Ch K O L B (sr_first K O L B) l) (hl : l.length < 34650) (post : Int32 → SX → Prop) 
    (H : ∀ f va' ho' dn' tT' tS', post (nI (0 + sr_cc (fun q => sr_fs K O B q.1 q.2) ((sr_first K O L B) :: l))) (f, K, O, L, B, va', ho', dn', tT', tS')) : wpX_classes post (f0, K, O, L, B, va, ho, dn, tT, tS) := by
  obtain ⟨okf, hnf⟩ := sr_first_ok K O L B
  unfold wpX_classes
  dsimp only
  exact sr_x_first g _ (fun va' ho' dn' tT' tS' hX => ⟨_, sr_x_cls8 g post l (sr_first K O L B) 0 0 va' ho' dn' tT' tS' hC hnf okf hX (by omega) H⟩)
theorem sr_ym_cls {K O L B tu st va ac ho : Nat → Int32} {f0 : Int32} (g : sr_gd K O L) {l : List ((Nat → Nat) × Nat)} (hC : sr_Ch K O L B (sr_first K O L B) l) (hl : l.length < 34650) (post : Int32 → SY → Prop) 
    (H : ∀ f tu' st' va' ac' ho', post (nI (0 + sr_cc (fun q => sr_fs K O B q.1 q.2) ((sr_first K O L B) :: l))) (f, L, K, O, B, tu', st', va', ac', ho')) : wpY_classes post (f0, L, K, O, B, tu, st, va, ac, ho) := by
  obtain ⟨okf, hnf⟩ := sr_first_ok K O L B
  unfold wpY_classes
  dsimp only
  exact sr_y_first g _ (fun tu' st' va' ac' ho' hY => ⟨_, sr_y_cls10 g post l (sr_first K O L B) 0 0 tu' st' va' ac' ho' hC hnf okf hY (by omega) H⟩)
theorem sr_xm_stk {K O L B va ho dn tT tS : Nat → Int32} {f0 : Int32} (g : sr_gd K O L) {l : List ((Nat → Nat) × Nat)} (hC : sr_Ch K O L B (sr_first K O L B) l) (hl : l.length < 34650) (post : Int32 → SX → Prop) 
    (H : ∀ f va' ho' dn' tT' tS', post (sr_b (sr_an (sr_sk K O L B) ((sr_first K O L B) :: l))) (f, K, O, L, B, va', ho', dn', tT', tS')) : wpX_canStick post (f0, K, O, L, B, va, ho, dn, tT, tS) := by
  obtain ⟨okf, hnf⟩ := sr_first_ok K O L B
  unfold wpX_canStick
  dsimp only
  exact sr_x_first g _ (fun va' ho' dn' tT' tS' hX => ⟨_, sr_x_stk6 g post l (sr_first K O L B) 0 va' ho' dn' tT' tS' hC hnf okf hX (by omega) H⟩)
theorem sr_ym_stk {K O L B tu st va ac ho : Nat → Int32} {f0 : Int32} (g : sr_gd K O L) {l : List ((Nat → Nat) × Nat)} (hC : sr_Ch K O L B (sr_first K O L B) l) (hl : l.length < 34650) (post : Int32 → SY → Prop) 
    (H : ∀ f tu' st' va' ac' ho', post (sr_b (sr_an (sr_sk K O L B) ((sr_first K O L B) :: l))) (f, L, K, O, B, tu', st', va', ac', ho')) : wpY_canStick post (f0, L, K, O, B, tu, st, va, ac, ho) := by
  obtain ⟨okf, hnf⟩ := sr_first_ok K O L B
  unfold wpY_canStick
  dsimp only
  exact sr_y_first g _ (fun tu' st' va' ac' ho' hY => ⟨_, sr_y_stk10 g post l (sr_first K O L B) false 0 tu' st' va' ac' ho' hC hnf okf hY (by omega) H⟩)
theorem sr_xm_ce {K O L B va ho dn tT tS : Nat → Int32} {f0 : Int32} (g : sr_gd K O L) {l : List ((Nat → Nat) × Nat)} (hC : sr_Ch K O L B (sr_first K O L B) l) (hl : l.length < 34650) (post : Int32 → SX → Prop) {x y : Nat} {a b : Int32} (hx : x < 3) (hy : y < 3)
    (H : ∀ f va' ho' dn' tT' tS', post (sr_b (sr_an (sr_eb K O B x y a b) ((sr_first K O L B) :: l))) (f, K, O, L, B, va', ho', dn', tT', tS')) : wpX_canEndWith post (f0, K, O, L, B, va, ho, dn, tT, tS) (nI x) a (nI y) b := by
  obtain ⟨okf, hnf⟩ := sr_first_ok K O L B
  unfold wpX_canEndWith
  dsimp only
  exact sr_x_first g _ (fun va' ho' dn' tT' tS' hX => ⟨_, sr_x_ce7 g post hx hy l (sr_first K O L B) 0 va' ho' dn' tT' tS' hC hnf okf hX (by omega) H⟩)
theorem sr_ym_ce {K O L B tu st va ac ho : Nat → Int32} {f0 : Int32} (g : sr_gd K O L) {l : List ((Nat → Nat) × Nat)} (hC : sr_Ch K O L B (sr_first K O L B) l) (hl : l.length < 34650) (post : Int32 → SY → Prop) {x y : Nat} {a b : Int32} (hx : x < 3) (hy : y < 3)
    (H : ∀ f tu' st' va' ac' ho', post (sr_b (sr_an (sr_eb K O B x y a b) ((sr_first K O L B) :: l))) (f, L, K, O, B, tu', st', va', ac', ho')) : wpY_canEndBoth post (f0, L, K, O, B, tu, st, va, ac, ho) (nI x) a (nI y) b := by
  obtain ⟨okf, hnf⟩ := sr_first_ok K O L B
  unfold wpY_canEndBoth
  dsimp only
  refine br_f (nI_pos (by omega)) (br_f (nI_nlt (a := 2) (by omega) (by decide)) (br_f (nI_pos (by omega)) (br_t (nI_le (b := 2) (by omega) (by decide)) ?_)))
  exact sr_y_first g _ (fun tu' st' va' ac' ho' hY => ⟨_, sr_y_ce33 g post hx hy l (sr_first K O L B) false 0 tu' st' va' ac' ho' hC hnf okf hY (by omega) H⟩)
theorem sr_xm_ex {K O L B va ho dn tT tS : Nat → Int32} {f0 : Int32} (g : sr_gd K O L) {l : List ((Nat → Nat) × Nat)} (hC : sr_Ch K O L B (sr_first K O L B) l) (hl : l.length < 34650) (post : Int32 → SX → Prop) {x : Nat} {w : Bool} (hx : x < 6)
    (H : ∀ f va' ho' dn' tT' tS', post (sr_fo w (sr_vl K O B x) (sr_vl K O B x (sr_first K O L B)) ((sr_first K O L B) :: l)) (f, K, O, L, B, va', ho', dn', tT', tS')) : wpX_extremeOfCell post (f0, K, O, L, B, va, ho, dn, tT, tS) (nI x) (sr_b w) := by
  obtain ⟨okf, hnf⟩ := sr_first_ok K O L B
  unfold wpX_extremeOfCell
  dsimp only
  exact sr_x_first g _ (fun va' ho' dn' tT' tS' hX => sr_x_vn hnf hx hX _ ⟨_, sr_x_ex13 g post hx l (sr_first K O L B) _ 0 va' ho' dn' tT' tS' hC hnf okf hX (by omega) H⟩)
theorem sr_ym_en {K O L B tu st va ac ho : Nat → Int32} {f0 : Int32} (g : sr_gd K O L) {l : List ((Nat → Nat) × Nat)} (hC : sr_Ch K O L B (sr_first K O L B) l) (hl : l.length < 34650) (post : Int32 → SY → Prop) {x : Nat} {w : Bool} (hx : x < 6)
    (H : ∀ f tu' st' va' ac' ho', post (sr_fo w (sr_vl K O B x) (sr_vl K O B x (sr_first K O L B)) ((sr_first K O L B) :: l)) (f, L, K, O, B, tu', st', va', ac', ho')) : wpY_end post (f0, L, K, O, B, tu, st, va, ac, ho) (nI x) (sr_b w) := by
  obtain ⟨okf, hnf⟩ := sr_first_ok K O L B
  unfold wpY_end
  dsimp only
  exact sr_y_first g _ (fun tu' st' va' ac' ho' hY => sr_y_replay g hnf okf hY.1 _ (fun st2 va2 ac2 ho2 hY2 => ⟨pk_in x 6 hx, nm_r (e' := sr_vl K O B x (sr_first K O L B)) (by rw [nI_clamp (n := x) (by omega)]; exact hY2.2.2.1 x hx) ⟨_, sr_y_en25 g post hx l (sr_first K O L B) _ 0 tu' st2 va2 ac2 ho2 hC hnf okf hY2 (by omega) H⟩⟩))
theorem sr_xm_ra {K O L B va ho dn tT tS : Nat → Int32} {f0 : Int32} (g : sr_gd K O L) {l : List ((Nat → Nat) × Nat)} (hC : sr_Ch K O L B (sr_first K O L B) l) (hl : l.length < 34650) (post : Int32 → SX → Prop) {x : Nat} (hx : x < 3)
    (H : ∀ f va' ho' dn' tT' tS', post (sr_b (sr_an (fun q => !decide (sr_vl K O B x q = sr_vl K O B x (sr_first K O L B))) ((sr_first K O L B) :: l))) (f, K, O, L, B, va', ho', dn', tT', tS')) : wpX_races post (f0, K, O, L, B, va, ho, dn, tT, tS) (nI x) := by
  obtain ⟨okf, hnf⟩ := sr_first_ok K O L B
  unfold wpX_races
  dsimp only
  refine sr_x_var_y hx _ (br_f (by decide) ?_)
  exact sr_x_first g _ (fun va' ho' dn' tT' tS' hX => sr_x_vn (x := x) hnf (by omega) hX _ ⟨_, sr_x_ra21 g post hx l (sr_first K O L B) 0 va' ho' dn' tT' tS' hC hnf okf hX (by omega) H⟩)
theorem sr_fo_0 {f : (Nat → Nat) × Nat → Int32} : ∀ (l : List ((Nat → Nat) × Nat)) (b : Int32), sr_fo false f b l ≤ b := by
  intro l
  induction l with
  | nil => intro b; exact Int32.le_refl _
  | cons s l ih =>
    intro b
    show sr_fo false f (sr_ex false b (f s)) l ≤ b
    by_cases z : b ≤ f s
    · have e : sr_ex false b (f s) = b := if_pos z
      rw [e]; exact ih b
    · have e : sr_ex false b (f s) = f s := if_neg z
      rw [e]
      have := ih (f s)
      rw [Int32.le_iff_toInt_le] at *
      omega
theorem sr_fo_1 {f : (Nat → Nat) × Nat → Int32} : ∀ (l : List ((Nat → Nat) × Nat)) (b : Int32), b ≤ sr_fo true f b l := by
  intro l
  induction l with
  | nil => intro b; exact Int32.le_refl _
  | cons s l ih =>
    intro b
    show b ≤ sr_fo true f (sr_ex true b (f s)) l
    by_cases z : f s ≤ b
    · have e : sr_ex true b (f s) = b := if_pos z
      rw [e]; exact ih b
    · have e : sr_ex true b (f s) = f s := if_neg z
      rw [e]
      have := ih (f s)
      rw [Int32.le_iff_toInt_le] at *
      omega
theorem sr_ex_0 (b v : Int32) : sr_ex false b v ≤ b ∧ sr_ex false b v ≤ v := by
  by_cases z : b ≤ v
  · have e : sr_ex false b v = b := if_pos z
    rw [e]; exact ⟨Int32.le_refl _, z⟩
  · have e : sr_ex false b v = v := if_neg z
    rw [e]
    refine ⟨?_, Int32.le_refl _⟩
    rw [Int32.le_iff_toInt_le] at *
    omega
theorem sr_ex_1 (b v : Int32) : b ≤ sr_ex true b v ∧ v ≤ sr_ex true b v := by
  by_cases z : v ≤ b
  · have e : sr_ex true b v = b := if_pos z
    rw [e]; exact ⟨Int32.le_refl _, z⟩
  · have e : sr_ex true b v = v := if_neg z
    rw [e]
    refine ⟨?_, Int32.le_refl _⟩
    rw [Int32.le_iff_toInt_le] at *
    omega
theorem sr_fo_ne {f : (Nat → Nat) × Nat → Int32} {c : Int32} : ∀ (l : List ((Nat → Nat) × Nat)) (b1 b2 : Int32), b1 ≤ c → c ≤ b2 → sr_an (fun q => !decide (f q = c)) l = true → (sr_fo false f b1 l).toInt < (sr_fo true f b2 l).toInt := by
  intro l
  induction l with
  | nil => intro b1 b2 _ _ h; exact nomatch h
  | cons s l ih =>
    intro b1 b2 h1 h2 h
    show (sr_fo false f (sr_ex false b1 (f s)) l).toInt < (sr_fo true f (sr_ex true b2 (f s)) l).toInt
    by_cases z : f s = c
    · refine ih _ _ ?_ ?_ ?_
      · rw [z]; exact (sr_ex_0 b1 c).2
      · rw [z]; exact (sr_ex_1 b2 c).2
      · have h' : ((!decide (f s = c)) || sr_an (fun q => !decide (f q = c)) l) = true := h
        rw [decide_eq_true z] at h'
        exact h'
    · have a1 := sr_fo_0 (f := f) l (sr_ex false b1 (f s))
      have a2 := sr_fo_1 (f := f) l (sr_ex true b2 (f s))
      have a3 := sr_ex_0 b1 (f s)
      have a4 := sr_ex_1 b2 (f s)
      have a5 : (f s).toInt ≠ c.toInt := fun q => z (Int32.toInt_inj.mp q)
      simp only [Int32.le_iff_toInt_le] at *
      omega
theorem sr_fo_eq {f : (Nat → Nat) × Nat → Int32} {c : Int32} {w : Bool} : ∀ (l : List ((Nat → Nat) × Nat)), sr_an (fun q => !decide (f q = c)) l = false → sr_fo w f c l = c := by
  intro l
  induction l with
  | nil => intro _; rfl
  | cons s l ih =>
    intro h
    have h' : ((!decide (f s = c)) || sr_an (fun q => !decide (f q = c)) l) = false := h
    rw [Bool.or_eq_false_iff] at h'
    have z : f s = c := by
      have q := h'.1
      by_cases y : f s = c
      · exact y
      · rw [decide_eq_false y] at q; exact nomatch q
    show sr_fo w f (sr_ex w c (f s)) l = c
    have e : sr_ex w c (f s) = c := by
      rw [z]
      cases w
      · exact if_pos (Int32.le_refl _)
      · exact if_pos (Int32.le_refl _)
    rw [e]
    exact ih h'.2
