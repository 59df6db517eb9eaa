/-! the reference's loops over all ends -/
theorem sr_y_sch8 {K O L B : Nat → Int32} (g : sr_gd K O L) (post : Int32 → SY → Prop) : ∀ (l : List ((Nat → Nat) × Nat)) (s : (Nat → Nat) × Nat) (e : Nat) (tu st va ac ho : Nat → Int32), sr_Ch K O L B s l → s.2 ≤ 12 → sr_ok K O L B s.1 s.2 → sr_YI K O B s.1 s.2 tu st va ac ho → e + l.length < 34650 →
    (∀ f tu' st' va' ac' ho', post (nI (e + l.length + 1)) (f, L, K, O, B, tu', st', va', ac', ho')) → wY_schedules_8 post (l.length + 2) (nI e) 1 (nI s.2) L K O B tu st va ac ho := by
  intro l
  induction l with
  | nil =>
    intro s e tu st va ac ho hC hn ok hY hl H
    have hC0 : sr_nx K O L B s.1 s.2 = none := hC
    have he : ¬ (34650 : Int32) ≤ nI e := nI_ge (b := 34650) (by omega) (by decide)
    exact br_f (by decide) (br_f he (nm_r (nI_1 e) (sr_y_next g hn ok hY.1 _ (fun _ st2 va2 ac2 ho2 => br_t rfl (H _ _ _ _ _ _)) (fun s2 z => nomatch (hC0.symm.trans z)))))
  | cons s' l ih =>
    intro s e tu st va ac ho hC hn ok hY hl H
    obtain ⟨ok', hn'⟩ := sr_nx_ok s.2 s' hn ok hC.1
    have he : ¬ (34650 : Int32) ≤ nI e := nI_ge (b := 34650) (by omega) (by decide)
    have hl' : (e + 1) + l.length < 34650 := by simp only [List.length_cons] at hl; omega
    have H' : ∀ f tu' st' va' ac' ho', post (nI (e + 1 + l.length + 1)) (f, L, K, O, B, tu', st', va', ac', ho') := by
      have q : e + (l.length + 1) + 1 = e + 1 + l.length + 1 := by omega
      rw [List.length_cons, q] at H
      exact H
    exact br_f (by decide) (br_f he (nm_r (nI_1 e) (sr_y_next g hn ok hY.1 _ (fun z => nomatch (hC.1.symm.trans z)) (fun s2 z tu2 st2 va2 ac2 ho2 hY2 => by cases Option.some.inj (hC.1.symm.trans z); exact ih s' (e + 1) tu2 st2 va2 ac2 ho2 hC.2 hn' ok' hY2 hl' H'))))
theorem sr_y_cls10 {K O L B : Nat → Int32} (g : sr_gd K O L) (post : Int32 → SY → Prop) : ∀ (l : List ((Nat → Nat) × Nat)) (s : (Nat → Nat) × Nat) (c e : Nat) (tu st va ac ho : Nat → Int32), sr_Ch K O L B s l → s.2 ≤ 12 → sr_ok K O L B s.1 s.2 → sr_YI K O B s.1 s.2 tu st va ac ho → e + l.length < 34650 →
    (∀ f tu' st' va' ac' ho', post (nI (c + sr_cc (fun q => sr_fs K O B q.1 q.2) (s :: l))) (f, L, K, O, B, tu', st', va', ac', ho')) → wY_classes_10 post (l.length + 2) (nI c) 1 (nI e) (nI s.2) L K O B tu st va ac ho := by
  intro l
  induction l with
  | nil =>
    intro s c e tu st va ac ho hC hn ok hY hl H
    have hC0 : sr_nx K O L B s.1 s.2 = none := hC
    have he : ¬ (34650 : Int32) ≤ nI e := nI_ge (b := 34650) (by omega) (by decide)
    have key : ∀ k : Nat, (∀ f tu' st' va' ac' ho', post (nI k) (f, L, K, O, B, tu', st', va', ac', ho')) → wY_classes_34 post (wY_classes_10 post (1)) (nI e) (nI k) (nI s.2) L K O B tu st va ac ho := by
      intro k h
      exact sr_y_next g hn ok hY.1 _ (fun _ st2 va2 ac2 ho2 => nm_r (nI_1 e) (br_c (fun _ => h _ _ _ _ _ _) (fun _ => br_t rfl (h _ _ _ _ _ _)))) (fun s2 z => nomatch (hC0.symm.trans z))
    refine br_f he (br_f (by decide) (sr_y_settled g hn ok hY _ ?_))
    cases y : sr_fs K O B s.1 s.2 with
    | true =>
      have q : c + sr_cc (fun q => sr_fs K O B q.1 q.2) [s] = c + 1 := by
        show c + ((if sr_fs K O B s.1 s.2 = true then 1 else 0) + 0) = _
        rw [if_pos y]
      rw [q] at H
      refine br_f (by decide) ?_
      rw [nI_1]
      exact key (c + 1) H
    | false =>
      have q : c + sr_cc (fun q => sr_fs K O B q.1 q.2) [s] = c := by
        show c + ((if sr_fs K O B s.1 s.2 = true then 1 else 0) + 0) = _
        rw [if_neg (by rw [y]; decide)]
        rfl
      rw [q] at H
      exact br_t rfl (key c H)
  | cons s' l ih =>
    intro s c e tu st va ac ho hC hn ok hY hl H
    obtain ⟨ok', hn'⟩ := sr_nx_ok s.2 s' hn ok hC.1
    have he : ¬ (34650 : Int32) ≤ nI e := nI_ge (b := 34650) (by omega) (by decide)
    have hl' : (e + 1) + l.length < 34650 := by simp only [List.length_cons] at hl; omega
    have key : ∀ k : Nat, (∀ f tu' st' va' ac' ho', post (nI (k + sr_cc (fun q => sr_fs K O B q.1 q.2) (s' :: l))) (f, L, K, O, B, tu', st', va', ac', ho')) → wY_classes_34 post (wY_classes_10 post (l.length + 2)) (nI e) (nI k) (nI s.2) L K O B tu st va ac ho := by
      intro k h
      exact sr_y_next g hn ok hY.1 _ (fun z => nomatch (hC.1.symm.trans z)) (fun s2 z tu2 st2 va2 ac2 ho2 hY2 => by cases Option.some.inj (hC.1.symm.trans z); exact nm_r (nI_1 e) (ih s' k (e + 1) tu2 st2 va2 ac2 ho2 hC.2 hn' ok' hY2 hl' h))
    refine br_f he (br_f (by decide) (sr_y_settled g hn ok hY _ ?_))
    cases y : sr_fs K O B s.1 s.2 with
    | true =>
      have q : c + sr_cc (fun q => sr_fs K O B q.1 q.2) (s :: s' :: l) = c + 1 + sr_cc (fun q => sr_fs K O B q.1 q.2) (s' :: l) := by
        show c + ((if sr_fs K O B s.1 s.2 = true then 1 else 0) + _) = _
        rw [if_pos y, Nat.add_assoc]
      rw [q] at H
      refine br_f (by decide) ?_
      rw [nI_1]
      exact key (c + 1) H
    | false =>
      have q : c + sr_cc (fun q => sr_fs K O B q.1 q.2) (s :: s' :: l) = c + sr_cc (fun q => sr_fs K O B q.1 q.2) (s' :: l) := by
        show c + ((if sr_fs K O B s.1 s.2 = true then 1 else 0) + _) = _
        rw [if_neg (by rw [y]; decide), Nat.zero_add]
      rw [q] at H
      exact br_t rfl (key c H)
theorem sr_y_stk10 {K O L B : Nat → Int32} (g : sr_gd K O L) (post : Int32 → SY → Prop) : ∀ (l : List ((Nat → Nat) × Nat)) (s : (Nat → Nat) × Nat) (c : Bool) (e : Nat) (tu st va ac ho : Nat → Int32), sr_Ch K O L B s l → s.2 ≤ 12 → sr_ok K O L B s.1 s.2 → sr_YI K O B s.1 s.2 tu st va ac ho → e + l.length < 34650 →
    (∀ f tu' st' va' ac' ho', post (sr_b (c || sr_an (sr_sk K O L B) (s :: l))) (f, L, K, O, B, tu', st', va', ac', ho')) → wY_canStick_10 post (l.length + 2) (sr_b c) 1 (nI e) (nI s.2) L K O B tu st va ac ho := by
  intro l
  induction l with
  | nil =>
    intro s c e tu st va ac ho hC hn ok hY hl H
    have hC0 : sr_nx K O L B s.1 s.2 = none := hC
    have he : ¬ (34650 : Int32) ≤ nI e := nI_ge (b := 34650) (by omega) (by decide)
    have key : ∀ (k : Bool) (st3 va3 ac3 ho3 : Nat → Int32), sr_YI K O B s.1 s.2 tu st3 va3 ac3 ho3 → (∀ f tu' st' va' ac' ho', post (sr_b k) (f, L, K, O, B, tu', st', va', ac', ho')) → wY_canStick_82 post (wY_canStick_10 post (1)) (nI e) (sr_b k) (nI s.2) L K O B tu st3 va3 ac3 ho3 := by
      intro k st3 va3 ac3 ho3 hY3 h
      exact sr_y_next g hn ok hY3.1 _ (fun _ st2 va2 ac2 ho2 => nm_r (nI_1 e) (br_c (fun _ => ⟨sr_b_n _, h _ _ _ _ _ _⟩) (fun _ => br_t rfl ⟨sr_b_n _, h _ _ _ _ _ _⟩))) (fun s2 z => nomatch (hC0.symm.trans z))
    have H1 : (c || (sr_sk K O L B) s) = true → ∀ f tu' st' va' ac' ho', post (sr_b true) (f, L, K, O, B, tu', st', va', ac', ho') := by
      intro yy
      have q : (c || sr_an (sr_sk K O L B) (s :: [])) = true := by
        show (c || ((sr_sk K O L B) s || _)) = _
        rw [← Bool.or_assoc, yy]
        try rfl
      rw [q] at H
      exact H
    have H0 : (c || (sr_sk K O L B) s) = false → ∀ f tu' st' va' ac' ho', post (sr_b false) (f, L, K, O, B, tu', st', va', ac', ho') := by
      intro yy
      have q : (c || sr_an (sr_sk K O L B) (s :: [])) = false := by
        show (c || ((sr_sk K O L B) s || _)) = _
        rw [← Bool.or_assoc, yy]
        try rfl
      rw [q] at H
      exact H
    refine br_f he (br_f (by decide) (sr_y_replay g hn ok hY.1 _ (fun st3 va3 ac3 ho3 hY3 => ?_)))
    obtain ⟨m0, hm0, eL0⟩ := g.1 0 (by omega)
    obtain ⟨m1, hm1, eL1⟩ := g.1 1 (by omega)
    obtain ⟨m2, hm2, eL2⟩ := g.1 2 (by omega)
    have l0 : (L 0).toNatClampNeg = m0 := by rw [eL0]; exact nI_clamp (by omega)
    have l1 : (L 1).toNatClampNeg = m1 := by rw [eL1]; exact nI_clamp (by omega)
    have l2 : (L 2).toNatClampNeg = m2 := by rw [eL2]; exact nI_clamp (by omega)
    have a0 := hY3.2.2.2.1 0 (by omega)
    have a1 := hY3.2.2.2.1 1 (by omega)
    have a2 := hY3.2.2.2.1 2 (by omega)
    have b0 := sr_at_le ok 0
    have b1 := sr_at_le ok 1
    have b2 := sr_at_le ok 2
    have k1 : (sr_sk K O L B) s = true → _ := fun y => key true st3 va3 ac3 ho3 hY3 (H1 (by rw [y]; exact Bool.or_true _))
    cases c with
    | true => exact br_f (by decide) (key true st3 va3 ac3 ho3 hY3 (H1 rfl))
    | false =>
      refine br_t rfl (pk_lt ((sr_run K O B s.1 s.2).2.1 0) m0 (fun z => k1 (decide_eq_true (Or.inl (by omega)))) (fun z => pk_lt ((sr_run K O B s.1 s.2).2.1 1) m1 (fun z1 => k1 (decide_eq_true (Or.inr (Or.inl (by omega))))) (fun z1 => pk_le m2 ((sr_run K O B s.1 s.2).2.1 2) (fun z2 => ?_) (fun z2 => k1 (decide_eq_true (Or.inr (Or.inr (by omega))))) eL2 a2) a1 eL1) a0 eL0)
      have y : (sr_sk K O L B) s = false := decide_eq_false (by omega)
      exact key false st3 va3 ac3 ho3 hY3 (H0 (by rw [y]; rfl))
  | cons s' l ih =>
    intro s c e tu st va ac ho hC hn ok hY hl H
    obtain ⟨ok', hn'⟩ := sr_nx_ok s.2 s' hn ok hC.1
    have he : ¬ (34650 : Int32) ≤ nI e := nI_ge (b := 34650) (by omega) (by decide)
    have hl' : (e + 1) + l.length < 34650 := by simp only [List.length_cons] at hl; omega
    have key : ∀ (k : Bool) (st3 va3 ac3 ho3 : Nat → Int32), sr_YI K O B s.1 s.2 tu st3 va3 ac3 ho3 → (∀ f tu' st' va' ac' ho', post (sr_b (k || sr_an (sr_sk K O L B) (s' :: l))) (f, L, K, O, B, tu', st', va', ac', ho')) → wY_canStick_82 post (wY_canStick_10 post (l.length + 2)) (nI e) (sr_b k) (nI s.2) L K O B tu st3 va3 ac3 ho3 := by
      intro k st3 va3 ac3 ho3 hY3 h
      exact sr_y_next g hn ok hY3.1 _ (fun z => nomatch (hC.1.symm.trans z)) (fun s2 z tu2 st2 va2 ac2 ho2 hY2 => by cases Option.some.inj (hC.1.symm.trans z); exact nm_r (nI_1 e) (ih s' k (e + 1) tu2 st2 va2 ac2 ho2 hC.2 hn' ok' hY2 hl' h))
    have H1 : (c || (sr_sk K O L B) s) = true → ∀ f tu' st' va' ac' ho', post (sr_b (true || sr_an (sr_sk K O L B) (s' :: l))) (f, L, K, O, B, tu', st', va', ac', ho') := by
      intro yy
      have q : (c || sr_an (sr_sk K O L B) (s :: s' :: l)) = (true || sr_an (sr_sk K O L B) (s' :: l)) := by
        show (c || ((sr_sk K O L B) s || _)) = _
        rw [← Bool.or_assoc, yy]
        try rfl
      rw [q] at H
      exact H
    have H0 : (c || (sr_sk K O L B) s) = false → ∀ f tu' st' va' ac' ho', post (sr_b (false || sr_an (sr_sk K O L B) (s' :: l))) (f, L, K, O, B, tu', st', va', ac', ho') := by
      intro yy
      have q : (c || sr_an (sr_sk K O L B) (s :: s' :: l)) = (false || sr_an (sr_sk K O L B) (s' :: l)) := by
        show (c || ((sr_sk K O L B) s || _)) = _
        rw [← Bool.or_assoc, yy]
        try rfl
      rw [q] at H
      exact H
    refine br_f he (br_f (by decide) (sr_y_replay g hn ok hY.1 _ (fun st3 va3 ac3 ho3 hY3 => ?_)))
    obtain ⟨m0, hm0, eL0⟩ := g.1 0 (by omega)
    obtain ⟨m1, hm1, eL1⟩ := g.1 1 (by omega)
    obtain ⟨m2, hm2, eL2⟩ := g.1 2 (by omega)
    have l0 : (L 0).toNatClampNeg = m0 := by rw [eL0]; exact nI_clamp (by omega)
    have l1 : (L 1).toNatClampNeg = m1 := by rw [eL1]; exact nI_clamp (by omega)
    have l2 : (L 2).toNatClampNeg = m2 := by rw [eL2]; exact nI_clamp (by omega)
    have a0 := hY3.2.2.2.1 0 (by omega)
    have a1 := hY3.2.2.2.1 1 (by omega)
    have a2 := hY3.2.2.2.1 2 (by omega)
    have b0 := sr_at_le ok 0
    have b1 := sr_at_le ok 1
    have b2 := sr_at_le ok 2
    have k1 : (sr_sk K O L B) s = true → _ := fun y => key true st3 va3 ac3 ho3 hY3 (H1 (by rw [y]; exact Bool.or_true _))
    cases c with
    | true => exact br_f (by decide) (key true st3 va3 ac3 ho3 hY3 (H1 rfl))
    | false =>
      refine br_t rfl (pk_lt ((sr_run K O B s.1 s.2).2.1 0) m0 (fun z => k1 (decide_eq_true (Or.inl (by omega)))) (fun z => pk_lt ((sr_run K O B s.1 s.2).2.1 1) m1 (fun z1 => k1 (decide_eq_true (Or.inr (Or.inl (by omega))))) (fun z1 => pk_le m2 ((sr_run K O B s.1 s.2).2.1 2) (fun z2 => ?_) (fun z2 => k1 (decide_eq_true (Or.inr (Or.inr (by omega))))) eL2 a2) a1 eL1) a0 eL0)
      have y : (sr_sk K O L B) s = false := decide_eq_false (by omega)
      exact key false st3 va3 ac3 ho3 hY3 (H0 (by rw [y]; rfl))
theorem sr_y_ce33 {K O L B : Nat → Int32} (g : sr_gd K O L) (post : Int32 → SY → Prop) {x y : Nat} {a b : Int32} (hx : x < 3) (hy : y < 3) : ∀ (l : List ((Nat → Nat) × Nat)) (s : (Nat → Nat) × Nat) (c : Bool) (e : Nat) (tu st va ac ho : Nat → Int32), sr_Ch K O L B s l → s.2 ≤ 12 → sr_ok K O L B s.1 s.2 → sr_YI K O B s.1 s.2 tu st va ac ho → e + l.length < 34650 →
    (∀ f tu' st' va' ac' ho', post (sr_b (c || sr_an (sr_eb K O B x y a b) (s :: l))) (f, L, K, O, B, tu', st', va', ac', ho')) → wY_canEndBoth_33 post (nI x) a (nI y) b (l.length + 2) (sr_b c) 1 (nI e) (nI s.2) L K O B tu st va ac ho := by
  intro l
  induction l with
  | nil =>
    intro s c e tu st va ac ho hC hn ok hY hl H
    have hC0 : sr_nx K O L B s.1 s.2 = none := hC
    have he : ¬ (34650 : Int32) ≤ nI e := nI_ge (b := 34650) (by omega) (by decide)
    have key : ∀ (k : Bool) (st3 va3 ac3 ho3 : Nat → Int32), sr_YI K O B s.1 s.2 tu st3 va3 ac3 ho3 → (∀ f tu' st' va' ac' ho', post (sr_b k) (f, L, K, O, B, tu', st', va', ac', ho')) → wY_canEndBoth_84 post (wY_canEndBoth_33 post (nI x) a (nI y) b (1)) (nI x) a (nI y) b (nI e) (sr_b k) (nI s.2) L K O B tu st3 va3 ac3 ho3 := by
      intro k st3 va3 ac3 ho3 hY3 h
      exact sr_y_next g hn ok hY3.1 _ (fun _ st2 va2 ac2 ho2 => nm_r (nI_1 e) (br_c (fun _ => ⟨sr_b_n _, h _ _ _ _ _ _⟩) (fun _ => br_t rfl ⟨sr_b_n _, h _ _ _ _ _ _⟩))) (fun s2 z => nomatch (hC0.symm.trans z))
    have H1 : (c || (sr_eb K O B x y a b) s) = true → ∀ f tu' st' va' ac' ho', post (sr_b true) (f, L, K, O, B, tu', st', va', ac', ho') := by
      intro yy
      have q : (c || sr_an (sr_eb K O B x y a b) (s :: [])) = true := by
        show (c || ((sr_eb K O B x y a b) s || _)) = _
        rw [← Bool.or_assoc, yy]
        try rfl
      rw [q] at H
      exact H
    have H0 : (c || (sr_eb K O B x y a b) s) = false → ∀ f tu' st' va' ac' ho', post (sr_b false) (f, L, K, O, B, tu', st', va', ac', ho') := by
      intro yy
      have q : (c || sr_an (sr_eb K O B x y a b) (s :: [])) = false := by
        show (c || ((sr_eb K O B x y a b) s || _)) = _
        rw [← Bool.or_assoc, yy]
        try rfl
      rw [q] at H
      exact H
    refine br_f he (br_f (by decide) (sr_y_replay g hn ok hY.1 _ (fun st3 va3 ac3 ho3 hY3 => ?_)))
    have ex : va3 (nI x).toNatClampNeg = sr_vl K O B x s := by rw [nI_clamp (by omega)]; exact hY3.2.2.1 x (by omega)
    have ey : va3 (nI y).toNatClampNeg = sr_vl K O B y s := by rw [nI_clamp (by omega)]; exact hY3.2.2.1 y (by omega)
    cases c with
    | true => exact br_f (by decide) (key true st3 va3 ac3 ho3 hY3 (H1 rfl))
    | false =>
      have k0 : (sr_eb K O B x y a b) s = false → _ := fun w => key false st3 va3 ac3 ho3 hY3 (H0 (by rw [w]; rfl))
      refine br_t rfl ⟨pk_in x 6 (by omega), br_c (fun z => ⟨pk_in y 6 (by omega), br_c (fun z2 => ?_) (fun z2 => ?_)⟩) (fun z => ?_)⟩
      · have w : (sr_eb K O B x y a b) s = true := decide_eq_true ⟨ex.symm.trans z, ey.symm.trans z2⟩
        exact key true st3 va3 ac3 ho3 hY3 (H1 (by rw [w]; rfl))
      · exact k0 (decide_eq_false (fun q => z2 (ey.trans q.2)))
      · exact k0 (decide_eq_false (fun q => z (ex.trans q.1)))
  | cons s' l ih =>
    intro s c e tu st va ac ho hC hn ok hY hl H
    obtain ⟨ok', hn'⟩ := sr_nx_ok s.2 s' hn ok hC.1
    have he : ¬ (34650 : Int32) ≤ nI e := nI_ge (b := 34650) (by omega) (by decide)
    have hl' : (e + 1) + l.length < 34650 := by simp only [List.length_cons] at hl; omega
    have key : ∀ (k : Bool) (st3 va3 ac3 ho3 : Nat → Int32), sr_YI K O B s.1 s.2 tu st3 va3 ac3 ho3 → (∀ f tu' st' va' ac' ho', post (sr_b (k || sr_an (sr_eb K O B x y a b) (s' :: l))) (f, L, K, O, B, tu', st', va', ac', ho')) → wY_canEndBoth_84 post (wY_canEndBoth_33 post (nI x) a (nI y) b (l.length + 2)) (nI x) a (nI y) b (nI e) (sr_b k) (nI s.2) L K O B tu st3 va3 ac3 ho3 := by
      intro k st3 va3 ac3 ho3 hY3 h
      exact sr_y_next g hn ok hY3.1 _ (fun z => nomatch (hC.1.symm.trans z)) (fun s2 z tu2 st2 va2 ac2 ho2 hY2 => by cases Option.some.inj (hC.1.symm.trans z); exact nm_r (nI_1 e) (ih s' k (e + 1) tu2 st2 va2 ac2 ho2 hC.2 hn' ok' hY2 hl' h))
    have H1 : (c || (sr_eb K O B x y a b) s) = true → ∀ f tu' st' va' ac' ho', post (sr_b (true || sr_an (sr_eb K O B x y a b) (s' :: l))) (f, L, K, O, B, tu', st', va', ac', ho') := by
      intro yy
      have q : (c || sr_an (sr_eb K O B x y a b) (s :: s' :: l)) = (true || sr_an (sr_eb K O B x y a b) (s' :: l)) := by
        show (c || ((sr_eb K O B x y a b) s || _)) = _
        rw [← Bool.or_assoc, yy]
        try rfl
      rw [q] at H
      exact H
    have H0 : (c || (sr_eb K O B x y a b) s) = false → ∀ f tu' st' va' ac' ho', post (sr_b (false || sr_an (sr_eb K O B x y a b) (s' :: l))) (f, L, K, O, B, tu', st', va', ac', ho') := by
      intro yy
      have q : (c || sr_an (sr_eb K O B x y a b) (s :: s' :: l)) = (false || sr_an (sr_eb K O B x y a b) (s' :: l)) := by
        show (c || ((sr_eb K O B x y a b) s || _)) = _
        rw [← Bool.or_assoc, yy]
        try rfl
      rw [q] at H
      exact H
    refine br_f he (br_f (by decide) (sr_y_replay g hn ok hY.1 _ (fun st3 va3 ac3 ho3 hY3 => ?_)))
    have ex : va3 (nI x).toNatClampNeg = sr_vl K O B x s := by rw [nI_clamp (by omega)]; exact hY3.2.2.1 x (by omega)
    have ey : va3 (nI y).toNatClampNeg = sr_vl K O B y s := by rw [nI_clamp (by omega)]; exact hY3.2.2.1 y (by omega)
    cases c with
    | true => exact br_f (by decide) (key true st3 va3 ac3 ho3 hY3 (H1 rfl))
    | false =>
      have k0 : (sr_eb K O B x y a b) s = false → _ := fun w => key false st3 va3 ac3 ho3 hY3 (H0 (by rw [w]; rfl))
      refine br_t rfl ⟨pk_in x 6 (by omega), br_c (fun z => ⟨pk_in y 6 (by omega), br_c (fun z2 => ?_) (fun z2 => ?_)⟩) (fun z => ?_)⟩
      · have w : (sr_eb K O B x y a b) s = true := decide_eq_true ⟨ex.symm.trans z, ey.symm.trans z2⟩
        exact key true st3 va3 ac3 ho3 hY3 (H1 (by rw [w]; rfl))
      · exact k0 (decide_eq_false (fun q => z2 (ey.trans q.2)))
      · exact k0 (decide_eq_false (fun q => z (ex.trans q.1)))
theorem sr_y_en25 {K O L B : Nat → Int32} (g : sr_gd K O L) (post : Int32 → SY → Prop) {x : Nat} {w : Bool} (hx : x < 6) : ∀ (l : List ((Nat → Nat) × Nat)) (s : (Nat → Nat) × Nat) (m : Int32) (e : Nat) (tu st va ac ho : Nat → Int32), sr_Ch K O L B s l → s.2 ≤ 12 → sr_ok K O L B s.1 s.2 → sr_YI K O B s.1 s.2 tu st va ac ho → e + l.length < 34650 →
    (∀ f tu' st' va' ac' ho', post (sr_fo w (sr_vl K O B x) m (s :: l)) (f, L, K, O, B, tu', st', va', ac', ho')) → wY_end_25 post (nI x) (sr_b w) (l.length + 2) m 1 (nI e) (nI s.2) L K O B tu st va ac ho := by
  intro l
  induction l with
  | nil =>
    intro s m e tu st va ac ho hC hn ok hY hl H
    have hC0 : sr_nx K O L B s.1 s.2 = none := hC
    have he : ¬ (34650 : Int32) ≤ nI e := nI_ge (b := 34650) (by omega) (by decide)
    have key : ∀ (k : Int32) (st3 va3 ac3 ho3 : Nat → Int32), sr_YI K O B s.1 s.2 tu st3 va3 ac3 ho3 → (∀ f tu' st' va' ac' ho', post (sr_fo w (sr_vl K O B x) (k) ([])) (f, L, K, O, B, tu', st', va', ac', ho')) → wY_end_84 post (wY_end_25 post (nI x) (sr_b w) (1)) (nI x) (sr_b w) (nI e) k (nI s.2) L K O B tu st3 va3 ac3 ho3 := by
      intro k st3 va3 ac3 ho3 hY3 h
      exact sr_y_next g hn ok hY3.1 _ (fun _ st2 va2 ac2 ho2 => nm_r (nI_1 e) (br_c (fun _ => h _ _ _ _ _ _) (fun _ => br_t rfl (h _ _ _ _ _ _)))) (fun s2 z => nomatch (hC0.symm.trans z))
    have H' : ∀ k, sr_ex w m (sr_vl K O B x s) = k → ∀ f tu' st' va' ac' ho', post (sr_fo w (sr_vl K O B x) (k) ([])) (f, L, K, O, B, tu', st', va', ac', ho') := by
      intro k hk
      subst hk
      exact H
    refine br_f he (br_f (by decide) (sr_y_replay g hn ok hY.1 _ (fun st3 va3 ac3 ho3 hY3 => ?_)))
    refine ⟨pk_in x 6 hx, nm_r (e' := sr_vl K O B x s) (by rw [nI_clamp (n := x) (by omega)]; exact hY3.2.2.1 x hx) ?_⟩
    cases w with
    | false => exact br_t rfl (br_c (fun z => key m st3 va3 ac3 ho3 hY3 (H' m (if_pos z))) (fun z => key _ st3 va3 ac3 ho3 hY3 (H' _ (if_neg z))))
    | true => exact br_f (by decide) (br_c (fun z => key m st3 va3 ac3 ho3 hY3 (H' m (if_pos z))) (fun z => key _ st3 va3 ac3 ho3 hY3 (H' _ (if_neg z))))
  | cons s' l ih =>
    intro s m e tu st va ac ho hC hn ok hY hl H
    obtain ⟨ok', hn'⟩ := sr_nx_ok s.2 s' hn ok hC.1
    have he : ¬ (34650 : Int32) ≤ nI e := nI_ge (b := 34650) (by omega) (by decide)
    have hl' : (e + 1) + l.length < 34650 := by simp only [List.length_cons] at hl; omega
    have key : ∀ (k : Int32) (st3 va3 ac3 ho3 : Nat → Int32), sr_YI K O B s.1 s.2 tu st3 va3 ac3 ho3 → (∀ f tu' st' va' ac' ho', post (sr_fo w (sr_vl K O B x) (k) (s' :: l)) (f, L, K, O, B, tu', st', va', ac', ho')) → wY_end_84 post (wY_end_25 post (nI x) (sr_b w) (l.length + 2)) (nI x) (sr_b w) (nI e) k (nI s.2) L K O B tu st3 va3 ac3 ho3 := by
      intro k st3 va3 ac3 ho3 hY3 h
      exact sr_y_next g hn ok hY3.1 _ (fun z => nomatch (hC.1.symm.trans z)) (fun s2 z tu2 st2 va2 ac2 ho2 hY2 => by cases Option.some.inj (hC.1.symm.trans z); exact nm_r (nI_1 e) (ih s' k (e + 1) tu2 st2 va2 ac2 ho2 hC.2 hn' ok' hY2 hl' h))
    have H' : ∀ k, sr_ex w m (sr_vl K O B x s) = k → ∀ f tu' st' va' ac' ho', post (sr_fo w (sr_vl K O B x) (k) (s' :: l)) (f, L, K, O, B, tu', st', va', ac', ho') := by
      intro k hk
      subst hk
      exact H
    refine br_f he (br_f (by decide) (sr_y_replay g hn ok hY.1 _ (fun st3 va3 ac3 ho3 hY3 => ?_)))
    refine ⟨pk_in x 6 hx, nm_r (e' := sr_vl K O B x s) (by rw [nI_clamp (n := x) (by omega)]; exact hY3.2.2.1 x hx) ?_⟩
    cases w with
    | false => exact br_t rfl (br_c (fun z => key m st3 va3 ac3 ho3 hY3 (H' m (if_pos z))) (fun z => key _ st3 va3 ac3 ho3 hY3 (H' _ (if_neg z))))
    | true => exact br_f (by decide) (br_c (fun z => key m st3 va3 ac3 ho3 hY3 (H' m (if_pos z))) (fun z => key _ st3 va3 ac3 ho3 hY3 (H' _ (if_neg z))))
