/-! the pure picture: a state is (values, places, holders); a path p: Nat → Nat -/
abbrev sr_S : Type := (Nat → Int32) × (Nat → Nat) × (Nat → Int32)
def sr_vst (k o : Int32) (t : Nat) (v : Nat → Int32) : Nat → Int32 :=
  if k = 0 then upd v (3 + t) (v o.toNatClampNeg)
  else if k = 1 then upd v o.toNatClampNeg (v (3 + t))
  else if k = 2 then upd (upd v (3 + t) (v o.toNatClampNeg)) o.toNatClampNeg (v (3 + t))
  else if k = 3 then upd v (3 + t) (v (3 + t) + o)
  else v
def sr_hst (k o : Int32) (t : Nat) (h : Nat → Int32) : Nat → Int32 :=
  if k = 4 then upd h o.toNatClampNeg (nI t)
  else if k = 5 then (if h o.toNatClampNeg = nI t then upd h o.toNatClampNeg (-1) else h)
  else h
def sr_pu (p : Nat → Nat) (n t : Nat) : Nat → Nat := fun j => if j = n then t else p j
theorem sr_pus {p : Nat → Nat} {n t : Nat} : sr_pu p n t n = t := if_pos rfl
theorem sr_pun {p : Nat → Nat} {n t j : Nat} (h : j ≠ n) : sr_pu p n t j = p j := if_neg h
def sr_stp (K O : Nat → Int32) (s : sr_S) (t : Nat) : sr_S :=
  (sr_vst (K (4 * t + s.2.1 t)) (O (4 * t + s.2.1 t)) t s.1, sr_pu s.2.1 t (s.2.1 t + 1), sr_hst (K (4 * t + s.2.1 t)) (O (4 * t + s.2.1 t)) t s.2.2)
def sr_run (K O B : Nat → Int32) (p : Nat → Nat) : Nat → sr_S
  | 0 => (B, fun _ => 0, fun _ => -1)
  | n + 1 => sr_stp K O (sr_run K O B p n) (p n)
def sr_ab (K O L : Nat → Int32) (s : sr_S) (t : Nat) : Bool :=
  decide (s.2.1 t < (L t).toNatClampNeg) && (decide (¬ K (4 * t + s.2.1 t) = 4) || decide (s.2.2 (O (4 * t + s.2.1 t)).toNatClampNeg = -1))
def sr_A (K O L B : Nat → Int32) (p : Nat → Nat) (n t : Nat) : Bool := sr_ab K O L (sr_run K O B p n) t
def sr_fa (a : Nat → Bool) (l : Nat) : Nat :=
  if l ≤ 0 ∧ a 0 = true then 0 else if l ≤ 1 ∧ a 1 = true then 1 else if l ≤ 2 ∧ a 2 = true then 2 else 3
theorem sr_fa_ge {a : Nat → Bool} {l : Nat} (h : 3 ≤ l) : sr_fa a l = 3 := by
  unfold sr_fa
  rw [if_neg (by omega), if_neg (by omega), if_neg (by omega)]
theorem sr_fa_t {a : Nat → Bool} {l : Nat} (h : l < 3) (ha : a l = true) : sr_fa a l = l := by
  unfold sr_fa
  rcases (by omega : l = 0 ∨ l = 1 ∨ l = 2) with z | z | z <;> subst z <;> simp [ha]
theorem sr_fa_f {a : Nat → Bool} {l : Nat} (h : l < 3) (ha : a l = false) : sr_fa a l = sr_fa a (l + 1) := by
  unfold sr_fa
  rcases (by omega : l = 0 ∨ l = 1 ∨ l = 2) with z | z | z <;> subst z <;> simp [ha]
theorem sr_fa_sp {a : Nat → Bool} {l : Nat} (h : sr_fa a l < 3) : l ≤ sr_fa a l ∧ a (sr_fa a l) = true := by
  by_cases h0 : l ≤ 0 ∧ a 0 = true
  · have e : sr_fa a l = 0 := by unfold sr_fa; rw [if_pos h0]
    rw [e]; exact h0
  · by_cases h1 : l ≤ 1 ∧ a 1 = true
    · have e : sr_fa a l = 1 := by unfold sr_fa; rw [if_neg h0, if_pos h1]
      rw [e]; exact h1
    · by_cases h2 : l ≤ 2 ∧ a 2 = true
      · have e : sr_fa a l = 2 := by unfold sr_fa; rw [if_neg h0, if_neg h1, if_pos h2]
        rw [e]; exact h2
      · have e : sr_fa a l = 3 := by unfold sr_fa; rw [if_neg h0, if_neg h1, if_neg h2]
        omega
theorem sr_fa_le {a : Nat → Bool} {l : Nat} : sr_fa a l ≤ 3 := by
  unfold sr_fa
  split
  · omega
  · split
    · omega
    · split <;> omega
def sr_ext (K O L B : Nat → Int32) : Nat → (Nat → Nat) → Nat → (Nat → Nat) × Nat
  | 0, p, n => (p, n)
  | f + 1, p, n => if sr_fa (sr_A K O L B p n) 0 < 3 then sr_ext K O L B f (sr_pu p n (sr_fa (sr_A K O L B p n) 0)) (n + 1) else (p, n)
def sr_nx (K O L B : Nat → Int32) (p : Nat → Nat) : Nat → Option ((Nat → Nat) × Nat)
  | 0 => none
  | d + 1 => if sr_fa (sr_A K O L B p d) (p d + 1) < 3 then some (sr_ext K O L B (11 - d) (sr_pu p d (sr_fa (sr_A K O L B p d) (p d + 1))) (d + 1)) else sr_nx K O L B p d
def sr_ok (K O L B : Nat → Int32) (p : Nat → Nat) (n : Nat) : Prop := ∀ d, d < n → p d < 3 ∧ sr_A K O L B p d (p d) = true
def sr_gd (K O L : Nat → Int32) : Prop :=
  (∀ t, t < 3 → ∃ m, m ≤ 4 ∧ L t = nI m) ∧ (∀ i, i < 12 → ∃ k, k ≤ 5 ∧ K i = nI k ∧ (k ≤ 2 → ∃ o, o ≤ 2 ∧ O i = nI o) ∧ (4 ≤ k → ∃ o, o ≤ 1 ∧ O i = nI o))
theorem sr_run_c (K O B : Nat → Int32) {p q : Nat → Nat} : ∀ {n : Nat}, (∀ d, d < n → p d = q d) → sr_run K O B p n = sr_run K O B q n := by
  intro n
  induction n with
  | zero => intro _; rfl
  | succ n ih =>
    intro h
    show sr_stp K O (sr_run K O B p n) (p n) = sr_stp K O (sr_run K O B q n) (q n)
    rw [ih (fun d hd => h d (by omega)), h n (by omega)]
theorem sr_run_pu (K O B : Nat → Int32) {p : Nat → Nat} {m t n : Nat} (h : n ≤ m) : sr_run K O B (sr_pu p m t) n = sr_run K O B p n :=
  sr_run_c K O B (fun d hd => sr_pun (by omega))
theorem sr_A_pu (K O L B : Nat → Int32) {p : Nat → Nat} {m t n : Nat} (h : n ≤ m) : sr_A K O L B (sr_pu p m t) n = sr_A K O L B p n := by
  unfold sr_A
  rw [sr_run_pu K O B h]
theorem sr_ok_le {K O L B : Nat → Int32} {p : Nat → Nat} {n m : Nat} (h : sr_ok K O L B p n) (hm : m ≤ n) : sr_ok K O L B p m := fun d hd => h d (by omega)
theorem sr_ok_pu {K O L B : Nat → Int32} {p : Nat → Nat} {n t : Nat} (h : sr_ok K O L B p n) (ht : t < 3) (ha : sr_A K O L B p n t = true) : sr_ok K O L B (sr_pu p n t) (n + 1) := by
  intro d hd
  by_cases e : d = n
  · subst e
    rw [sr_pus, sr_A_pu K O L B (Nat.le_refl _)]
    exact ⟨ht, ha⟩
  · rw [sr_pun e, sr_A_pu K O L B (by omega)]
    exact h d (by omega)
theorem sr_ext_ok {K O L B : Nat → Int32} : ∀ (f : Nat) (p : Nat → Nat) (n : Nat), sr_ok K O L B p n → sr_ok K O L B (sr_ext K O L B f p n).1 (sr_ext K O L B f p n).2 ∧ (sr_ext K O L B f p n).2 ≤ n + f := by
  intro f
  induction f with
  | zero => intro p n h; exact ⟨h, Nat.le_refl _⟩
  | succ f ih =>
    intro p n h
    by_cases c : sr_fa (sr_A K O L B p n) 0 < 3
    · have e : sr_ext K O L B (f + 1) p n = sr_ext K O L B f (sr_pu p n (sr_fa (sr_A K O L B p n) 0)) (n + 1) := if_pos c
      rw [e]
      have := ih (sr_pu p n (sr_fa (sr_A K O L B p n) 0)) (n + 1) (sr_ok_pu h c (sr_fa_sp c).2)
      exact ⟨this.1, by have := this.2; omega⟩
    · have e : sr_ext K O L B (f + 1) p n = (p, n) := if_neg c
      rw [e]
      exact ⟨h, by show n ≤ _; omega⟩
theorem sr_nx_ok {K O L B : Nat → Int32} {p : Nat → Nat} : ∀ (n : Nat) (s : (Nat → Nat) × Nat), n ≤ 12 → sr_ok K O L B p n → sr_nx K O L B p n = some s → sr_ok K O L B s.1 s.2 ∧ s.2 ≤ 12 := by
  intro n
  induction n with
  | zero => intro s _ _ h; exact nomatch h
  | succ d ih =>
    intro s hn h e
    by_cases c : sr_fa (sr_A K O L B p d) (p d + 1) < 3
    · have e2 : sr_nx K O L B p (d + 1) = some (sr_ext K O L B (11 - d) (sr_pu p d (sr_fa (sr_A K O L B p d) (p d + 1))) (d + 1)) := if_pos c
      rw [e2] at e
      cases e
      have := sr_ext_ok (11 - d) (sr_pu p d (sr_fa (sr_A K O L B p d) (p d + 1))) (d + 1) (sr_ok_pu (sr_ok_le h (by omega)) c (sr_fa_sp c).2)
      exact ⟨this.1, by have := this.2; omega⟩
    · have e2 : sr_nx K O L B p (d + 1) = sr_nx K O L B p d := if_neg c
      rw [e2] at e
      exact ih s (by omega) (sr_ok_le h (by omega)) e
theorem sr_ab_lt {K O L : Nat → Int32} {s : sr_S} {t : Nat} (h : sr_ab K O L s t = true) : s.2.1 t < (L t).toNatClampNeg := by
  unfold sr_ab at h
  rw [Bool.and_eq_true] at h
  exact of_decide_eq_true h.1
theorem sr_at_le {K O L B : Nat → Int32} {p : Nat → Nat} : ∀ {n : Nat}, sr_ok K O L B p n → ∀ t, (sr_run K O B p n).2.1 t ≤ (L t).toNatClampNeg := by
  intro n
  induction n with
  | zero => intro _ t; exact Nat.zero_le _
  | succ n ih =>
    intro h t
    show sr_pu (sr_run K O B p n).2.1 (p n) ((sr_run K O B p n).2.1 (p n) + 1) t ≤ _
    by_cases e : t = p n
    · subst e
      rw [sr_pus]
      exact sr_ab_lt (h n (by omega)).2
    · rw [sr_pun e]
      exact ih (sr_ok_le h (by omega)) t
def sr_hg (h : Nat → Int32) : Prop := ∀ l, h l = -1 ∨ ∃ t, t < 3 ∧ h l = nI t
theorem sr_hst_g {k o : Int32} {t : Nat} {h : Nat → Int32} (ht : t < 3) (hh : sr_hg h) : sr_hg (sr_hst k o t h) := by
  intro l
  unfold sr_hst
  by_cases h4 : k = 4
  · rw [if_pos h4]
    by_cases e : l = o.toNatClampNeg
    · subst e; rw [pk_us]; exact Or.inr ⟨t, ht, rfl⟩
    · rw [pk_un e]; exact hh l
  · rw [if_neg h4]
    by_cases h5 : k = 5
    · rw [if_pos h5]
      by_cases c : h o.toNatClampNeg = nI t
      · rw [if_pos c]
        by_cases e : l = o.toNatClampNeg
        · subst e; rw [pk_us]; exact Or.inl rfl
        · rw [pk_un e]; exact hh l
      · rw [if_neg c]; exact hh l
    · rw [if_neg h5]; exact hh l
theorem sr_run_h {K O L B : Nat → Int32} {p : Nat → Nat} : ∀ {n : Nat}, sr_ok K O L B p n → sr_hg (sr_run K O B p n).2.2 := by
  intro n
  induction n with
  | zero => intro _ l; exact Or.inl rfl
  | succ n ih => intro h; exact sr_hst_g (h n (by omega)).1 (ih (sr_ok_le h (by omega)))
