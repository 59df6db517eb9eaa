section
/-! rows of kit/rows, pasted -/
theorem pk_us {f : Nat → Int32} {k : Nat} {x : Int32} : upd f k x k = x := if_pos rfl
theorem pk_un {f : Nat → Int32} {k j : Nat} {x : Int32} (h : j ≠ k) : upd f k x j = f j := if_neg h
theorem pk_sub {a b : Nat} (h : b ≤ a) : nI a - nI b = nI (a - b) := by
  obtain ⟨c, rfl⟩ : ∃ c, a = c + b := ⟨a - b, by omega⟩
  rw [← nI_add, Int32.add_sub_cancel, Nat.add_sub_cancel]
theorem pk_m1 (n : Nat) : nI (n + 1) + (-1) = nI n := by
  rw [← nI_1, Int32.add_assoc, show (1 : Int32) + (-1) = 0 from rfl, Int32.add_zero]
theorem pk_mul (a b : Nat) : nI a * nI b = nI (a * b) := (Int32.ofNat_mul a b).symm
theorem pk_ix (x : Int32) {n : Nat} (hn : n < 2 ^ 31) : x < 0 ∨ nI n ≤ x ∨ ∃ j : Nat, j < n ∧ x = nI j := by
  by_cases h : x < 0
  · exact Or.inl h
  · obtain ⟨j, hj, rfl⟩ := nI_of h
    by_cases h2 : j < n
    · exact Or.inr (Or.inr ⟨j, h2, rfl⟩)
    · exact Or.inr (Or.inl (nI_le (by omega) hj))
theorem pk_le {x y : Int32} {A B : Prop} (a b : Nat) (f : a ≤ b → A) (g : b < a → B) (hx : x = nI a := by rfl) (hy : y = nI b := by rfl) (ha : a < 2 ^ 31 := by omega) (hb : b < 2 ^ 31 := by omega) : (x ≤ y → A) ∧ (¬ x ≤ y → B) := by
  subst hx hy
  rw [nI_leI ha hb]
  exact ⟨f, fun z => g (by omega)⟩
theorem pk_lt {x y : Int32} {A B : Prop} (a b : Nat) (f : a < b → A) (g : b ≤ a → B) (hx : x = nI a := by rfl) (hy : y = nI b := by rfl) (ha : a < 2 ^ 31 := by omega) (hb : b < 2 ^ 31 := by omega) : (x < y → A) ∧ (¬ x < y → B) := by
  subst hx hy
  rw [nI_ltI ha hb]
  exact ⟨f, fun z => g (by omega)⟩
theorem pk_eq {x y : Int32} {A B : Prop} (a b : Nat) (f : a = b → A) (g : a ≠ b → B) (hx : x = nI a := by rfl) (hy : y = nI b := by rfl) (ha : a < 2 ^ 31 := by omega) (hb : b < 2 ^ 31 := by omega) : (x = y → A) ∧ (¬ x = y → B) := by
  subst hx hy
  rw [nI_eq ha hb]
  exact ⟨f, g⟩
theorem pk_in {x : Int32} (n N : Nat) (h : n < N) (hx : x = nI n := by rfl) (hN : N < 2 ^ 31 := by omega) : vp_in x N := by
  subst hx
  exact vp_in_nI h hN
theorem pk_cl {x : Int32} (n : Nat) (hx : x = nI n := by rfl) (h : n < 2 ^ 31 := by omega) : x.toNatClampNeg = n := by
  subst hx
  exact nI_clamp h
theorem pk_tn {n : Nat} (h : n < 2 ^ 32) : (nI n).toBitVec.toNat = n := Nat.mod_eq_of_lt h
theorem pk_and (x : Int32) {m : Int32} (k : Nat) (hm : m.toBitVec.toNat = 2 ^ k - 1) : x &&& m = nI (x.toBitVec.toNat % 2 ^ k) := by
  apply Int32.toBitVec_inj.mp
  apply BitVec.eq_of_toNat_eq
  rw [Int32.toBitVec_and, BitVec.toNat_and, hm, Nat.and_two_pow_sub_one_eq_mod]
  show _ = (BitVec.ofNat 32 _).toNat
  rw [BitVec.toNat_ofNat]
  exact (Nat.mod_eq_of_lt (Nat.lt_of_le_of_lt (Nat.mod_le _ _) x.toBitVec.isLt)).symm
theorem pk_andN {n : Nat} (h : n < 2 ^ 32) {m : Int32} (k : Nat) (hm : m.toBitVec.toNat = 2 ^ k - 1) : nI n &&& m = nI (n % 2 ^ k) := by
  rw [pk_and _ k hm, pk_tn h]
end
section
/-! the pure picture: a state is (values, places, holders); a path p: Nat → Nat -/
abbrev sr_S : Type := (Nat → Int32) × (Nat → Nat) × (Nat → Int32)
def sr_vst (k o : Int32) (t : Nat) (v : Nat → Int32) : Nat → Int32 :=
  if k = 0 then upd v (3 + t) (v o.toNatClampNeg)
  else if k = 1 then upd v o.toNatClampNeg (v (3 + t))
  else if k = 2 then upd (upd v (3 + t) (v o.toNatClampNeg)) o.toNatClampNeg (v (3 + t))
  else if k = 3 then upd v (3 + t) (v (3 + t) + o)
  else v
def sr_hst (k o : Int32) (t : Nat) (h : Nat → Int32) : Nat → Int32 :=
  if k = 4 then upd h o.toNatClampNeg (nI t)
  else if k = 5 then (if h o.toNatClampNeg = nI t then upd h o.toNatClampNeg (-1) else h)
  else h
def sr_pu (p : Nat → Nat) (n t : Nat) : Nat → Nat := fun j => if j = n then t else p j
theorem sr_pus {p : Nat → Nat} {n t : Nat} : sr_pu p n t n = t := if_pos rfl
theorem sr_pun {p : Nat → Nat} {n t j : Nat} (h : j ≠ n) : sr_pu p n t j = p j := if_neg h
def sr_stp (K O : Nat → Int32) (s : sr_S) (t : Nat) : sr_S :=
  (sr_vst (K (4 * t + s.2.1 t)) (O (4 * t + s.2.1 t)) t s.1, sr_pu s.2.1 t (s.2.1 t + 1), sr_hst (K (4 * t + s.2.1 t)) (O (4 * t + s.2.1 t)) t s.2.2)
def sr_run (K O B : Nat → Int32) (p : Nat → Nat) : Nat → sr_S
  | 0 => (B, fun _ => 0, fun _ => -1)
  | n + 1 => sr_stp K O (sr_run K O B p n) (p n)
def sr_ab (K O L : Nat → Int32) (s : sr_S) (t : Nat) : Bool :=
  decide (s.2.1 t < (L t).toNatClampNeg) && (decide (¬ K (4 * t + s.2.1 t) = 4) || decide (s.2.2 (O (4 * t + s.2.1 t)).toNatClampNeg = -1))
def sr_A (K O L B : Nat → Int32) (p : Nat → Nat) (n t : Nat) : Bool := sr_ab K O L (sr_run K O B p n) t
def sr_fa (a : Nat → Bool) (l : Nat) : Nat :=
  if l ≤ 0 ∧ a 0 = true then 0 else if l ≤ 1 ∧ a 1 = true then 1 else if l ≤ 2 ∧ a 2 = true then 2 else 3
theorem sr_fa_ge {a : Nat → Bool} {l : Nat} (h : 3 ≤ l) : sr_fa a l = 3 := by
  unfold sr_fa
  rw [if_neg (by omega), if_neg (by omega), if_neg (by omega)]
theorem sr_fa_t {a : Nat → Bool} {l : Nat} (h : l < 3) (ha : a l = true) : sr_fa a l = l := by
  unfold sr_fa
  rcases (by omega : l = 0 ∨ l = 1 ∨ l = 2) with z | z | z <;> subst z <;> simp [ha]
theorem sr_fa_f {a : Nat → Bool} {l : Nat} (h : l < 3) (ha : a l = false) : sr_fa a l = sr_fa a (l + 1) := by
  unfold sr_fa
  rcases (by omega : l = 0 ∨ l = 1 ∨ l = 2) with z | z | z <;> subst z <;> simp [ha]
theorem sr_fa_sp {a : Nat → Bool} {l : Nat} (h : sr_fa a l < 3) : l ≤ sr_fa a l ∧ a (sr_fa a l) = true := by
  by_cases h0 : l ≤ 0 ∧ a 0 = true
  · have e : sr_fa a l = 0 := by unfold sr_fa; rw [if_pos h0]
    rw [e]; exact h0
  · by_cases h1 : l ≤ 1 ∧ a 1 = true
    · have e : sr_fa a l = 1 := by unfold sr_fa; rw [if_neg h0, if_pos h1]
      rw [e]; exact h1
    · by_cases h2 : l ≤ 2 ∧ a 2 = true
      · have e : sr_fa a l = 2 := by unfold sr_fa; rw [if_neg h0, if_neg h1, if_pos h2]
        rw [e]; exact h2
      · have e : sr_fa a l = 3 := by unfold sr_fa; rw [if_neg h0, if_neg h1, if_neg h2]
        omega
theorem sr_fa_le {a : Nat → Bool} {l : Nat} : sr_fa a l ≤ 3 := by
  unfold sr_fa
  split
  · omega
  · split
    · omega
    · split <;> omega
def sr_ext (K O L B : Nat → Int32) : Nat → (Nat → Nat) → Nat → (Nat → Nat) × Nat
  | 0, p, n => (p, n)
  | f + 1, p, n => if sr_fa (sr_A K O L B p n) 0 < 3 then sr_ext K O L B f (sr_pu p n (sr_fa (sr_A K O L B p n) 0)) (n + 1) else (p, n)
def sr_nx (K O L B : Nat → Int32) (p : Nat → Nat) : Nat → Option ((Nat → Nat) × Nat)
  | 0 => none
  | d + 1 => if sr_fa (sr_A K O L B p d) (p d + 1) < 3 then some (sr_ext K O L B (11 - d) (sr_pu p d (sr_fa (sr_A K O L B p d) (p d + 1))) (d + 1)) else sr_nx K O L B p d
def sr_ok (K O L B : Nat → Int32) (p : Nat → Nat) (n : Nat) : Prop := ∀ d, d < n → p d < 3 ∧ sr_A K O L B p d (p d) = true
def sr_gd (K O L : Nat → Int32) : Prop :=
  (∀ t, t < 3 → ∃ m, m ≤ 4 ∧ L t = nI m) ∧ (∀ i, i < 12 → ∃ k, k ≤ 5 ∧ K i = nI k ∧ (k ≤ 2 → ∃ o, o ≤ 2 ∧ O i = nI o) ∧ (4 ≤ k → ∃ o, o ≤ 1 ∧ O i = nI o))
theorem sr_run_c (K O B : Nat → Int32) {p q : Nat → Nat} : ∀ {n : Nat}, (∀ d, d < n → p d = q d) → sr_run K O B p n = sr_run K O B q n := by
  intro n
  induction n with
  | zero => intro _; rfl
  | succ n ih =>
    intro h
    show sr_stp K O (sr_run K O B p n) (p n) = sr_stp K O (sr_run K O B q n) (q n)
    rw [ih (fun d hd => h d (by omega)), h n (by omega)]
theorem sr_run_pu (K O B : Nat → Int32) {p : Nat → Nat} {m t n : Nat} (h : n ≤ m) : sr_run K O B (sr_pu p m t) n = sr_run K O B p n :=
  sr_run_c K O B (fun d hd => sr_pun (by omega))
theorem sr_A_pu (K O L B : Nat → Int32) {p : Nat → Nat} {m t n : Nat} (h : n ≤ m) : sr_A K O L B (sr_pu p m t) n = sr_A K O L B p n := by
  unfold sr_A
  rw [sr_run_pu K O B h]
theorem sr_ok_le {K O L B : Nat → Int32} {p : Nat → Nat} {n m : Nat} (h : sr_ok K O L B p n) (hm : m ≤ n) : sr_ok K O L B p m := fun d hd => h d (by omega)
theorem sr_ok_pu {K O L B : Nat → Int32} {p : Nat → Nat} {n t : Nat} (h : sr_ok K O L B p n) (ht : t < 3) (ha : sr_A K O L B p n t = true) : sr_ok K O L B (sr_pu p n t) (n + 1) := by
  intro d hd
  by_cases e : d = n
  · subst e
    rw [sr_pus, sr_A_pu K O L B (Nat.le_refl _)]
    exact ⟨ht, ha⟩
  · rw [sr_pun e, sr_A_pu K O L B (by omega)]
    exact h d (by omega)
theorem sr_ext_ok {K O L B : Nat → Int32} : ∀ (f : Nat) (p : Nat → Nat) (n : Nat), sr_ok K O L B p n → sr_ok K O L B (sr_ext K O L B f p n).1 (sr_ext K O L B f p n).2 ∧ (sr_ext K O L B f p n).2 ≤ n + f := by
  intro f
  induction f with
  | zero => intro p n h; exact ⟨h, Nat.le_refl _⟩
  | succ f ih =>
    intro p n h
    by_cases c : sr_fa (sr_A K O L B p n) 0 < 3
    · have e : sr_ext K O L B (f + 1) p n = sr_ext K O L B f (sr_pu p n (sr_fa (sr_A K O L B p n) 0)) (n + 1) := if_pos c
      rw [e]
      have := ih (sr_pu p n (sr_fa (sr_A K O L B p n) 0)) (n + 1) (sr_ok_pu h c (sr_fa_sp c).2)
      exact ⟨this.1, by have := this.2; omega⟩
    · have e : sr_ext K O L B (f + 1) p n = (p, n) := if_neg c
      rw [e]
      exact ⟨h, by show n ≤ _; omega⟩
theorem sr_nx_ok {K O L B : Nat → Int32} {p : Nat → Nat} : ∀ (n : Nat) (s : (Nat → Nat) × Nat), n ≤ 12 → sr_ok K O L B p n → sr_nx K O L B p n = some s → sr_ok K O L B s.1 s.2 ∧ s.2 ≤ 12 := by
  intro n
  induction n with
  | zero => intro s _ _ h; exact nomatch h
  | succ d ih =>
    intro s hn h e
    by_cases c : sr_fa (sr_A K O L B p d) (p d + 1) < 3
    · have e2 : sr_nx K O L B p (d + 1) = some (sr_ext K O L B (11 - d) (sr_pu p d (sr_fa (sr_A K O L B p d) (p d + 1))) (d + 1)) := if_pos c
      rw [e2] at e
      cases e
      have := sr_ext_ok (11 - d) (sr_pu p d (sr_fa (sr_A K O L B p d) (p d + 1))) (d + 1) (sr_ok_pu (sr_ok_le h (by omega)) c (sr_fa_sp c).2)
      exact ⟨this.1, by have := this.2; omega⟩
    · have e2 : sr_nx K O L B p (d + 1) = sr_nx K O L B p d := if_neg c
      rw [e2] at e
      exact ih s (by omega) (sr_ok_le h (by omega)) e
theorem sr_ab_lt {K O L : Nat → Int32} {s : sr_S} {t : Nat} (h : sr_ab K O L s t = true) : s.2.1 t < (L t).toNatClampNeg := by
  unfold sr_ab at h
  rw [Bool.and_eq_true] at h
  exact of_decide_eq_true h.1
theorem sr_at_le {K O L B : Nat → Int32} {p : Nat → Nat} : ∀ {n : Nat}, sr_ok K O L B p n → ∀ t, (sr_run K O B p n).2.1 t ≤ (L t).toNatClampNeg := by
  intro n
  induction n with
  | zero => intro _ t; exact Nat.zero_le _
  | succ n ih =>
    intro h t
    show sr_pu (sr_run K O B p n).2.1 (p n) ((sr_run K O B p n).2.1 (p n) + 1) t ≤ _
    by_cases e : t = p n
    · subst e
      rw [sr_pus]
      exact sr_ab_lt (h n (by omega)).2
    · rw [sr_pun e]
      exact ih (sr_ok_le h (by omega)) t
def sr_hg (h : Nat → Int32) : Prop := ∀ l, h l = -1 ∨ ∃ t, t < 3 ∧ h l = nI t
theorem sr_hst_g {k o : Int32} {t : Nat} {h : Nat → Int32} (ht : t < 3) (hh : sr_hg h) : sr_hg (sr_hst k o t h) := by
  intro l
  unfold sr_hst
  by_cases h4 : k = 4
  · rw [if_pos h4]
    by_cases e : l = o.toNatClampNeg
    · subst e; rw [pk_us]; exact Or.inr ⟨t, ht, rfl⟩
    · rw [pk_un e]; exact hh l
  · rw [if_neg h4]
    by_cases h5 : k = 5
    · rw [if_pos h5]
      by_cases c : h o.toNatClampNeg = nI t
      · rw [if_pos c]
        by_cases e : l = o.toNatClampNeg
        · subst e; rw [pk_us]; exact Or.inl rfl
        · rw [pk_un e]; exact hh l
      · rw [if_neg c]; exact hh l
    · rw [if_neg h5]; exact hh l
theorem sr_run_h {K O L B : Nat → Int32} {p : Nat → Nat} : ∀ {n : Nat}, sr_ok K O L B p n → sr_hg (sr_run K O B p n).2.2 := by
  intro n
  induction n with
  | zero => intro _ l; exact Or.inl rfl
  | succ n ih => intro h; exact sr_hst_g (h n (by omega)).1 (ih (sr_ok_le h (by omega)))
end
section
/-! at most 34650 ends: a potential by multinomials -/
def sr_fc : Nat → Nat
  | 0 => 1
  | n + 1 => (n + 1) * sr_fc n
def sr_M (a b c : Nat) : Nat := sr_fc (a + b + c) / (sr_fc a * sr_fc b * sr_fc c)
def sr_W (a b c t : Nat) : Nat := if t = 0 then sr_M (a - 1) b c else if t = 1 then sr_M a (b - 1) c else sr_M a b (c - 1)
def sr_P (a b c t : Nat) : Nat := if t = 0 then a else if t = 1 then b else c
def sr_V (a b c t : Nat) : Nat := if 0 < sr_P a b c t then sr_W a b c t else 0
def sr_T (a b c t : Nat) : Nat := (if t < 1 then sr_V a b c 1 else 0) + (if t < 2 then sr_V a b c 2 else 0)
theorem sr_F1 : ∀ a, a < 5 → ∀ b, b < 5 → ∀ c, c < 5 → ∀ t, t < 3 → 0 < sr_P a b c t → sr_T a b c t + sr_W a b c t ≤ sr_M a b c := by decide +kernel
theorem sr_F2 (a b c j t : Nat) (hj : j < 3) (ht : t < j) (hp : 0 < sr_P a b c j) : sr_T a b c j + sr_W a b c j ≤ sr_T a b c t := by
  have hv : sr_V a b c j = sr_W a b c j := if_pos hp
  rw [← hv]
  rcases (by omega : (j = 1 ∧ t = 0) ∨ (j = 2 ∧ t = 0) ∨ (j = 2 ∧ t = 1)) with ⟨rfl, rfl⟩ | ⟨rfl, rfl⟩ | ⟨rfl, rfl⟩
  · show 0 + sr_V a b c 2 + sr_V a b c 1 ≤ sr_V a b c 1 + sr_V a b c 2
    omega
  · show 0 + 0 + sr_V a b c 2 ≤ sr_V a b c 1 + sr_V a b c 2
    omega
  · show 0 + 0 + sr_V a b c 2 ≤ 0 + sr_V a b c 2
    omega
theorem sr_F3 : ∀ a, a < 5 → ∀ b, b < 5 → ∀ c, c < 5 → 1 ≤ sr_M a b c ∧ sr_M a b c ≤ 34650 := by decide +kernel
def sr_m (L : Nat → Int32) (s : sr_S) (t : Nat) : Nat := (L t).toNatClampNeg - s.2.1 t
def sr_MM (L : Nat → Int32) (s : sr_S) : Nat := sr_M (sr_m L s 0) (sr_m L s 1) (sr_m L s 2)
def sr_TT (L : Nat → Int32) (s : sr_S) (t : Nat) : Nat := sr_T (sr_m L s 0) (sr_m L s 1) (sr_m L s 2) t
def sr_ph (K O L B : Nat → Int32) (p : Nat → Nat) : Nat → Nat
  | 0 => 0
  | n + 1 => sr_ph K O L B p n + sr_TT L (sr_run K O B p n) (p n)
theorem sr_ph_c (K O L B : Nat → Int32) {p q : Nat → Nat} : ∀ {n : Nat}, (∀ d, d < n → p d = q d) → sr_ph K O L B p n = sr_ph K O L B q n := by
  intro n
  induction n with
  | zero => intro _; rfl
  | succ n ih =>
    intro h
    show sr_ph K O L B p n + sr_TT L (sr_run K O B p n) (p n) = sr_ph K O L B q n + sr_TT L (sr_run K O B q n) (q n)
    rw [ih (fun d hd => h d (by omega)), sr_run_c K O B (fun d hd => h d (by omega)), h n (by omega)]
theorem sr_ml {K O L : Nat → Int32} (g : sr_gd K O L) (s : sr_S) {t : Nat} (ht : t < 3) : sr_m L s t < 5 := by
  obtain ⟨m, hm, e⟩ := g.1 t ht
  unfold sr_m
  rw [e, nI_clamp (by omega)]
  omega
theorem sr_P_m {L : Nat → Int32} {s : sr_S} {t : Nat} (ht : t < 3) : sr_P (sr_m L s 0) (sr_m L s 1) (sr_m L s 2) t = sr_m L s t := by
  rcases (by omega : t = 0 ∨ t = 1 ∨ t = 2) with z | z | z <;> subst z <;> rfl
theorem sr_stp_m {K O L : Nat → Int32} {s : sr_S} {t : Nat} (ht : t < 3) : sr_MM L (sr_stp K O s t) = sr_W (sr_m L s 0) (sr_m L s 1) (sr_m L s 2) t := by
  have key : ∀ j, sr_m L (sr_stp K O s t) j = if j = t then sr_m L s t - 1 else sr_m L s j := by
    intro j
    show (L j).toNatClampNeg - sr_pu s.2.1 t (s.2.1 t + 1) j = _
    by_cases e : j = t
    · subst e
      rw [sr_pus, if_pos rfl]
      unfold sr_m
      omega
    · rw [sr_pun e, if_neg e]
      rfl
  unfold sr_MM
  rw [key 0, key 1, key 2]
  rcases (by omega : t = 0 ∨ t = 1 ∨ t = 2) with z | z | z <;> subst z <;> rfl
theorem sr_ab_m {K O L : Nat → Int32} {s : sr_S} {t : Nat} (h : sr_ab K O L s t = true) : 0 < sr_m L s t := by
  have := sr_ab_lt h
  unfold sr_m
  omega
theorem sr_ph_pu {K O L B : Nat → Int32} (p : Nat → Nat) (n t : Nat) : sr_ph K O L B (sr_pu p n t) (n + 1) = sr_ph K O L B p n + sr_TT L (sr_run K O B p n) t := by
  show sr_ph K O L B (sr_pu p n t) n + sr_TT L (sr_run K O B (sr_pu p n t) n) (sr_pu p n t n) = _
  rw [sr_ph_c K O L B (q := p) (fun d hd => sr_pun (by omega)), sr_run_pu K O B (Nat.le_refl n), sr_pus]
theorem sr_MM_pu {K O L B : Nat → Int32} (p : Nat → Nat) (n : Nat) {t : Nat} (ht : t < 3) : sr_MM L (sr_run K O B (sr_pu p n t) (n + 1)) = sr_W (sr_m L (sr_run K O B p n) 0) (sr_m L (sr_run K O B p n) 1) (sr_m L (sr_run K O B p n) 2) t := by
  have e : sr_run K O B (sr_pu p n t) (n + 1) = sr_stp K O (sr_run K O B p n) t := by
    show sr_stp K O (sr_run K O B (sr_pu p n t) n) (sr_pu p n t n) = _
    rw [sr_run_pu K O B (Nat.le_refl n), sr_pus]
  rw [e]
  exact sr_stp_m ht
theorem sr_MM_1 {K O L : Nat → Int32} (g : sr_gd K O L) (s : sr_S) : 1 ≤ sr_MM L s := (sr_F3 _ (sr_ml g s (by omega)) _ (sr_ml g s (by omega)) _ (sr_ml g s (by omega))).1
theorem sr_ext_ph {K O L B : Nat → Int32} (g : sr_gd K O L) : ∀ (f : Nat) (p : Nat → Nat) (n : Nat), sr_ph K O L B (sr_ext K O L B f p n).1 (sr_ext K O L B f p n).2 + 1 ≤ sr_ph K O L B p n + sr_MM L (sr_run K O B p n) := by
  intro f
  induction f with
  | zero => intro p n; exact Nat.add_le_add_left (sr_MM_1 g _) _
  | succ f ih =>
    intro p n
    by_cases c : sr_fa (sr_A K O L B p n) 0 < 3
    · have e : sr_ext K O L B (f + 1) p n = sr_ext K O L B f (sr_pu p n (sr_fa (sr_A K O L B p n) 0)) (n + 1) := if_pos c
      rw [e]
      have h1 := ih (sr_pu p n (sr_fa (sr_A K O L B p n) 0)) (n + 1)
      rw [sr_ph_pu, sr_MM_pu p n c] at h1
      have h2 : sr_TT L (sr_run K O B p n) (sr_fa (sr_A K O L B p n) 0) + sr_W (sr_m L (sr_run K O B p n) 0) (sr_m L (sr_run K O B p n) 1) (sr_m L (sr_run K O B p n) 2) (sr_fa (sr_A K O L B p n) 0) ≤ sr_MM L (sr_run K O B p n) :=
        sr_F1 _ (sr_ml g _ (by omega)) _ (sr_ml g _ (by omega)) _ (sr_ml g _ (by omega)) _ c (by rw [sr_P_m c]; exact sr_ab_m (sr_fa_sp c).2)
      omega
    · have e : sr_ext K O L B (f + 1) p n = (p, n) := if_neg c
      rw [e]
      exact Nat.add_le_add_left (sr_MM_1 g _) _
theorem sr_nx_ph {K O L B : Nat → Int32} (g : sr_gd K O L) {p : Nat → Nat} : ∀ (n : Nat) (s : (Nat → Nat) × Nat), sr_nx K O L B p n = some s → sr_ph K O L B s.1 s.2 + 1 ≤ sr_ph K O L B p n := by
  intro n
  induction n with
  | zero => intro s h; exact nomatch h
  | succ d ih =>
    intro s e
    have e3 : sr_ph K O L B p (d + 1) = sr_ph K O L B p d + sr_TT L (sr_run K O B p d) (p d) := rfl
    by_cases c : sr_fa (sr_A K O L B p d) (p d + 1) < 3
    · have e2 : sr_nx K O L B p (d + 1) = some (sr_ext K O L B (11 - d) (sr_pu p d (sr_fa (sr_A K O L B p d) (p d + 1))) (d + 1)) := if_pos c
      rw [e2] at e
      cases e
      have h1 := sr_ext_ph (B := B) g (11 - d) (sr_pu p d (sr_fa (sr_A K O L B p d) (p d + 1))) (d + 1)
      rw [sr_ph_pu, sr_MM_pu p d c] at h1
      have h2 : sr_TT L (sr_run K O B p d) (sr_fa (sr_A K O L B p d) (p d + 1)) + sr_W (sr_m L (sr_run K O B p d) 0) (sr_m L (sr_run K O B p d) 1) (sr_m L (sr_run K O B p d) 2) (sr_fa (sr_A K O L B p d) (p d + 1)) ≤ sr_TT L (sr_run K O B p d) (p d) :=
        sr_F2 _ _ _ _ _ c (by have := (sr_fa_sp c).1; omega) (by rw [sr_P_m c]; exact sr_ab_m (sr_fa_sp c).2)
      omega
    · have e2 : sr_nx K O L B p (d + 1) = sr_nx K O L B p d := if_neg c
      rw [e2] at e
      have := ih s e
      omega
/-- the ends behind s, one after the other -/
def sr_Ch (K O L B : Nat → Int32) : (Nat → Nat) × Nat → List ((Nat → Nat) × Nat) → Prop
  | s, [] => sr_nx K O L B s.1 s.2 = none
  | s, s' :: l => sr_nx K O L B s.1 s.2 = some s' ∧ sr_Ch K O L B s' l
theorem sr_ch_ex {K O L B : Nat → Int32} (g : sr_gd K O L) : ∀ (m : Nat) (s : (Nat → Nat) × Nat), sr_ph K O L B s.1 s.2 ≤ m → ∃ l, sr_Ch K O L B s l ∧ l.length ≤ m := by
  intro m
  induction m with
  | zero =>
    intro s h
    cases e : sr_nx K O L B s.1 s.2 with
    | none => exact ⟨[], e, Nat.le_refl _⟩
    | some s' =>
      have := sr_nx_ph g s.2 s' e
      omega
  | succ m ih =>
    intro s h
    cases e : sr_nx K O L B s.1 s.2 with
    | none => exact ⟨[], e, Nat.zero_le _⟩
    | some s' =>
      have := sr_nx_ph g s.2 s' e
      obtain ⟨l, hl, h2⟩ := ih s' (by omega)
      exact ⟨s' :: l, ⟨e, hl⟩, Nat.succ_le_succ h2⟩
def sr_first (K O L B : Nat → Int32) : (Nat → Nat) × Nat := sr_ext K O L B 12 (fun _ => 0) 0
theorem sr_first_ok (K O L B : Nat → Int32) : sr_ok K O L B (sr_first K O L B).1 (sr_first K O L B).2 ∧ (sr_first K O L B).2 ≤ 12 := by
  have := sr_ext_ok (K := K) (O := O) (L := L) (B := B) 12 (fun _ => 0) 0 (fun d hd => absurd hd (Nat.not_lt_zero d))
  exact ⟨this.1, this.2⟩
theorem sr_ends {K O L : Nat → Int32} (g : sr_gd K O L) (B : Nat → Int32) : ∃ l, sr_Ch K O L B (sr_first K O L B) l ∧ l.length < 34650 := by
  have h1 := sr_ext_ph (B := B) g 12 (fun _ => 0) 0
  have h2 : sr_MM L (sr_run K O B (fun _ => 0) 0) ≤ 34650 := (sr_F3 _ (sr_ml g _ (by omega)) _ (sr_ml g _ (by omega)) _ (sr_ml g _ (by omega))).2
  have h3 : sr_ph K O L B (fun _ => 0) 0 = 0 := rfl
  obtain ⟨l, hl, hn⟩ := sr_ch_ex (B := B) g 34649 (sr_first K O L B) (by unfold sr_first; omega)
  exact ⟨l, hl, by omega⟩
end
section
/-! the component's small methods -/
theorem sr_ix (n m t : Nat) : nI n * nI m + nI t = nI (n * m + t) := by rw [pk_mul, nI_add]
theorem sr_m1 (x : Int32) : x + (-1) = x - 1 := by rw [Int32.sub_eq_add_neg]
theorem sr_upl {w n i : Nat} {va v : Nat → Int32} {x y : Int32} (h : ∀ c, c < w → va (n * w + c) = v c) (e : x = y) : ∀ c, c < w → upd va (n * w + i) x (n * w + c) = upd v i y c := by
  intro c hc
  by_cases z : c = i
  · subst z; rw [pk_us, pk_us, e]
  · rw [pk_un (by omega), pk_un z, h c hc]
theorem sr_uplo {w n i : Nat} {va : Nat → Int32} {x : Int32} : ∀ j, j < n * w → upd va (n * w + i) x j = va j := fun j hj => pk_un (by omega)
theorem sr_ab_0 {K O L : Nat → Int32} {s : sr_S} {t : Nat} (h : ¬ s.2.1 t < (L t).toNatClampNeg) : sr_ab K O L s t = false := by
  unfold sr_ab; rw [decide_eq_false h]; rfl
theorem sr_ab_1 {K O L : Nat → Int32} {s : sr_S} {t : Nat} (h : s.2.1 t < (L t).toNatClampNeg) (hk : ¬ K (4 * t + s.2.1 t) = 4) : sr_ab K O L s t = true := by
  unfold sr_ab; rw [decide_eq_true h, decide_eq_true hk]; rfl
theorem sr_ab_2 {K O L : Nat → Int32} {s : sr_S} {t : Nat} (h : s.2.1 t < (L t).toNatClampNeg) (hh : s.2.2 (O (4 * t + s.2.1 t)).toNatClampNeg = -1) : sr_ab K O L s t = true := by
  unfold sr_ab; rw [decide_eq_true h, decide_eq_true hh, Bool.or_true]; rfl
theorem sr_ab_3 {K O L : Nat → Int32} {s : sr_S} {t : Nat} (hk : K (4 * t + s.2.1 t) = 4) (hh : ¬ s.2.2 (O (4 * t + s.2.1 t)).toNatClampNeg = -1) : sr_ab K O L s t = false := by
  have h1 : decide (¬ K (4 * t + s.2.1 t) = 4) = false := decide_eq_false (fun z => z hk)
  unfold sr_ab; rw [h1, decide_eq_false hh]; exact Bool.and_false _
def sr_XL (K O B : Nat → Int32) (p : Nat → Nat) (d : Nat) (va ho dn : Nat → Int32) : Prop :=
  (∀ c, c < 6 → va (d * 6 + c) = (sr_run K O B p d).1 c) ∧ (∀ l, l < 2 → ho (d * 2 + l) = (sr_run K O B p d).2.2 l) ∧ (∀ t, t < 3 → dn (d * 3 + t) = nI ((sr_run K O B p d).2.1 t))
def sr_XI (K O B : Nat → Int32) (p : Nat → Nat) (n : Nat) (va ho dn tT tS : Nat → Int32) : Prop :=
  (∀ d, d ≤ n → sr_XL K O B p d va ho dn) ∧ (∀ d, d < n → tT d = nI (p d) ∧ tS d = nI (4 * p d + (sr_run K O B p d).2.1 (p d)))
theorem sr_x_can {K O L B va ho dn tT tS : Nat → Int32} {p : Nat → Nat} {n t : Nat} (g : sr_gd K O L) (hn : n ≤ 12) (ht : t < 3) (hX : sr_XL K O B p n va ho dn) (ho4 : (sr_run K O B p n).2.1 t ≤ (L t).toNatClampNeg)
    (post : Int32 → Prop) (h1 : sr_A K O L B p n t = true → post 1) (h0 : sr_A K O L B p n t = false → post 0) : wpX_canHaveTurn post (nI n, K, O, L, B, va, ho, dn, tT, tS) (nI t) := by
  obtain ⟨m, hm, eL⟩ := g.1 t ht
  have hd := hX.2.2 t ht
  have hH := hX.2.1
  clear hX
  unfold sr_A at h1 h0
  generalize sr_run K O B p n = s at *
  have eL' : (L t).toNatClampNeg = m := by rw [eL]; exact nI_clamp (by omega)
  have e1 : nI n * 3 + nI t = nI (n * 3 + t) := sr_ix n 3 t
  have e2 : dn (nI n * 3 + nI t).toNatClampNeg = nI (s.2.1 t) := by rw [pk_cl _ e1, hd]
  have e3 : L (nI t).toNatClampNeg = nI m := by rw [nI_clamp (by omega), eL]
  have e4 : nI t * 4 + nI (s.2.1 t) = nI (4 * t + s.2.1 t) := by rw [Nat.mul_comm]; exact sr_ix t 4 _
  refine ⟨pk_in _ _ (by omega) e1, nm_r e2 ⟨pk_in t 3 ht, ?_⟩⟩
  refine pk_lt (s.2.1 t) m (fun hlt => nm_r e4 ?_) (fun hge => h0 (sr_ab_0 (by omega))) rfl e3
  have hc : 4 * t + s.2.1 t < 12 := by omega
  obtain ⟨k, hk, eK, _, hO⟩ := g.2 _ hc
  have e5 : K (nI (4 * t + s.2.1 t)).toNatClampNeg = nI k := by rw [nI_clamp (by omega), eK]
  refine ⟨pk_in _ _ hc, pk_eq k 4 (fun k4 => ⟨pk_in _ _ hc, ?_⟩) (fun k4 => h1 (sr_ab_1 (by omega) ?_)) e5⟩
  · obtain ⟨o, ho1, eO⟩ := hO (by omega)
    have e6 : O (nI (4 * t + s.2.1 t)).toNatClampNeg = nI o := by rw [nI_clamp (by omega), eO]
    have e7 : nI n * 2 + O (nI (4 * t + s.2.1 t)).toNatClampNeg = nI (n * 2 + o) := by rw [e6]; exact sr_ix n 2 o
    have e8 : ho (nI n * 2 + O (nI (4 * t + s.2.1 t)).toNatClampNeg).toNatClampNeg = s.2.2 (O (4 * t + s.2.1 t)).toNatClampNeg := by
      rw [pk_cl _ e7, eO, nI_clamp (by omega)]
      exact hH o (by omega)
    refine ⟨pk_in _ _ (by omega) e7, br_c (fun z => h1 (sr_ab_2 (by omega) (e8.symm.trans z))) (fun z => h0 (sr_ab_3 (by rw [eK, k4]; rfl) (fun y => z (e8.trans y))))⟩
  · rw [eK]
    intro z
    exact k4 ((nI_eq (b := 4) (by omega) (by omega)).mp z)
theorem sr_x_able {K O L B va ho dn tT tS : Nat → Int32} {p : Nat → Nat} {n : Nat} (g : sr_gd K O L) (hn : n ≤ 12) (hX : sr_XL K O B p n va ho dn) (ho4 : ∀ t, (sr_run K O B p n).2.1 t ≤ (L t).toNatClampNeg)
    (post : Int32 → Prop) : ∀ (f l : Nat), l + f = 3 → (sr_fa (sr_A K O L B p n) l < 3 → post (nI (sr_fa (sr_A K O L B p n) l))) → (¬ sr_fa (sr_A K O L B p n) l < 3 → post (-1)) → wX_ableThreadFrom_2 post (nI n) K O L B va ho dn tT tS (f + 1) (nI l) := by
  intro f
  induction f with
  | zero =>
    intro l hl h1 h0
    have e : sr_fa (sr_A K O L B p n) l = 3 := sr_fa_ge (by omega)
    exact br_t (nI_le (a := 3) (by omega) (by omega)) (h0 (by omega))
  | succ f ih =>
    intro l hl h1 h0
    refine br_f (nI_ge (b := 3) (by omega) (by decide)) (sr_x_can g hn (by omega) hX (ho4 l) _ (fun ha => ?_) (fun ha => ?_))
    · have e := sr_fa_t (a := sr_A K O L B p n) (l := l) (by omega) ha
      rw [e] at h1
      exact br_f (by decide) (h1 (by omega))
    · have e := sr_fa_f (a := sr_A K O L B p n) (l := l) (by omega) ha
      rw [e] at h1 h0
      exact br_t rfl (nm_r (nI_1 l) (ih (l + 1) (by omega) h1 h0))
theorem sr_x_ableF {K O L B va ho dn tT tS : Nat → Int32} {p : Nat → Nat} {n l : Nat} (g : sr_gd K O L) (hn : n ≤ 12) (hX : sr_XL K O B p n va ho dn) (ho4 : ∀ t, (sr_run K O B p n).2.1 t ≤ (L t).toNatClampNeg) (hl : l ≤ 3)
    (post : Int32 → Prop) (h1 : sr_fa (sr_A K O L B p n) l < 3 → post (nI (sr_fa (sr_A K O L B p n) l))) (h0 : ¬ sr_fa (sr_A K O L B p n) l < 3 → post (-1)) : wpX_ableThreadFrom post (nI n, K, O, L, B, va, ho, dn, tT, tS) (nI l) :=
  ⟨3 - l + 1, sr_x_able g hn hX ho4 post (3 - l) l (by omega) h1 h0⟩
theorem sr_v0 {o t : Nat} {v : Nat → Int32} (h : o < 2 ^ 31) : sr_vst (nI 0) (nI o) t v = upd v (3 + t) (v o) := by
  unfold sr_vst; rw [nI_clamp h, if_pos (by decide)]
theorem sr_v1 {o t : Nat} {v : Nat → Int32} (h : o < 2 ^ 31) : sr_vst (nI 1) (nI o) t v = upd v o (v (3 + t)) := by
  unfold sr_vst; rw [nI_clamp h, if_neg (by decide), if_pos (by decide)]
theorem sr_v2 {o t : Nat} {v : Nat → Int32} (h : o < 2 ^ 31) : sr_vst (nI 2) (nI o) t v = upd (upd v (3 + t) (v o)) o (v (3 + t)) := by
  unfold sr_vst; rw [nI_clamp h, if_neg (by decide), if_neg (by decide), if_pos (by decide)]
theorem sr_v3 {x : Int32} {t : Nat} {v : Nat → Int32} : sr_vst (nI 3) x t v = upd v (3 + t) (v (3 + t) + x) := by
  unfold sr_vst; rw [if_neg (by decide), if_neg (by decide), if_neg (by decide), if_pos (by decide)]
theorem sr_v45 {k : Nat} {x : Int32} {t : Nat} {v : Nat → Int32} (h : k = 4 ∨ k = 5) : sr_vst (nI k) x t v = v := by
  unfold sr_vst
  rcases h with z | z <;> subst z <;> rw [if_neg (by decide), if_neg (by decide), if_neg (by decide), if_neg (by decide)]
theorem sr_h03 {k : Nat} {x : Int32} {t : Nat} {h : Nat → Int32} (hk : k ≤ 3) : sr_hst (nI k) x t h = h := by
  unfold sr_hst
  rcases (by omega : k = 0 ∨ k = 1 ∨ k = 2 ∨ k = 3) with z | z | z | z <;> subst z <;> rw [if_neg (by decide), if_neg (by decide)]
theorem sr_h4 {o t : Nat} {h : Nat → Int32} (ho : o < 2 ^ 31) : sr_hst (nI 4) (nI o) t h = upd h o (nI t) := by
  unfold sr_hst; rw [nI_clamp ho, if_pos (by decide)]
theorem sr_h5 {o t : Nat} {h : Nat → Int32} (ho : o < 2 ^ 31) : sr_hst (nI 5) (nI o) t h = if h o = nI t then upd h o (-1) else h := by
  unfold sr_hst; rw [nI_clamp ho, if_neg (by decide), if_pos (by decide)]
theorem sr_x_carry {K O L B va ho dn tT tS v h : Nat → Int32} {n t k : Nat} {q : Int32} (hn : n ≤ 12) (ht : t < 3) (hk : k ≤ 5) (hq2 : k ≤ 2 → ∃ o, o ≤ 2 ∧ q = nI o) (hq4 : 4 ≤ k → ∃ o, o ≤ 1 ∧ q = nI o)
    (hv : ∀ c, c < 6 → va (n * 6 + c) = v c) (hh : ∀ l, l < 2 → ho (n * 2 + l) = h l) (post : SX → Prop)
    (H : ∀ va' ho', (∀ c, c < 6 → va' (n * 6 + c) = sr_vst (nI k) q t v c) → (∀ l, l < 2 → ho' (n * 2 + l) = sr_hst (nI k) q t h l) → (∀ j, j < n * 6 → va' j = va j) → (∀ j, j < n * 2 → ho' j = ho j) → post (nI n, K, O, L, B, va', ho', dn, tT, tS)) :
    wpX_carryOut post (nI n, K, O, L, B, va, ho, dn, tT, tS) (nI t) (nI k) q := by
  have e6 : nI n * 6 + 3 + nI t = nI (n * 6 + (3 + t)) := by
    rw [← Nat.add_assoc, ← nI_add (n * 6 + 3) t, ← sr_ix n 6 3]; rfl
  have i6 : vp_in (nI n * 6 + 3 + nI t) 78 := pk_in _ _ (by omega) e6
  have c6 : (nI n * 6 + 3 + nI t).toNatClampNeg = n * 6 + (3 + t) := pk_cl _ e6
  have hv3 := hv (3 + t) (by omega)
  rcases (by omega : k = 0 ∨ k = 1 ∨ k = 2 ∨ k = 3 ∨ k = 4 ∨ k = 5) with z | z | z | z | z | z
  · subst z
    obtain ⟨o, ho2, rfl⟩ := hq2 (by omega)
    have eo : nI n * 6 + nI o = nI (n * 6 + o) := sr_ix n 6 o
    have io : vp_in (nI n * 6 + nI o) 78 := pk_in _ _ (by omega) eo
    have co : (nI n * 6 + nI o).toNatClampNeg = n * 6 + o := pk_cl _ eo
    have hvo := hv o (by omega)
    refine nm_e (nm_e (nm_e (br_f (by decide) (br_f (by decide) (br_t (by decide) ⟨io, i6, nm_r (e' := upd va (n * 6 + (3 + t)) (va (n * 6 + o))) (by rw [c6, co]) ?_⟩)))))
    refine H _ _ ?_ ?_ sr_uplo (fun _ _ => rfl)
    · rw [sr_v0 (by omega)]; exact sr_upl hv hvo
    · rw [sr_h03 (by omega)]; exact hh
  · subst z
    obtain ⟨o, ho2, rfl⟩ := hq2 (by omega)
    have eo : nI n * 6 + nI o = nI (n * 6 + o) := sr_ix n 6 o
    have io : vp_in (nI n * 6 + nI o) 78 := pk_in _ _ (by omega) eo
    have co : (nI n * 6 + nI o).toNatClampNeg = n * 6 + o := pk_cl _ eo
    refine nm_e (nm_e (nm_e (br_f (by decide) (br_f (by decide) (br_f (by decide) (br_t (by decide) ⟨i6, io, nm_r (e' := upd va (n * 6 + o) (va (n * 6 + (3 + t)))) (by rw [c6, co]) ?_⟩))))))
    refine H _ _ ?_ ?_ sr_uplo (fun _ _ => rfl)
    · rw [sr_v1 (by omega)]; exact sr_upl hv hv3
    · rw [sr_h03 (by omega)]; exact hh
  · subst z
    obtain ⟨o, ho2, rfl⟩ := hq2 (by omega)
    have eo : nI n * 6 + nI o = nI (n * 6 + o) := sr_ix n 6 o
    have io : vp_in (nI n * 6 + nI o) 78 := pk_in _ _ (by omega) eo
    have co : (nI n * 6 + nI o).toNatClampNeg = n * 6 + o := pk_cl _ eo
    have hvo := hv o (by omega)
    refine nm_e (nm_e (nm_e (br_f (by decide) (br_f (by decide) (br_f (by decide) (br_f (by decide) (br_t (by decide) ⟨i6, nm_r (e' := va (n * 6 + (3 + t))) (by rw [c6]) ⟨io, i6, nm_r (e' := upd va (n * 6 + (3 + t)) (va (n * 6 + o))) (by rw [c6, co]) ⟨io, nm_r (e' := upd (upd va (n * 6 + (3 + t)) (va (n * 6 + o))) (n * 6 + o) (va (n * 6 + (3 + t)))) (by rw [co]) ?_⟩⟩⟩)))))))
    refine H _ _ ?_ ?_ (fun j hj => (sr_uplo j hj).trans (sr_uplo j hj)) (fun _ _ => rfl)
    · rw [sr_v2 (by omega)]; exact sr_upl (sr_upl hv hvo) hv3
    · rw [sr_h03 (by omega)]; exact hh
  · subst z
    refine nm_e (nm_e (nm_e (br_f (by decide) (br_f (by decide) (br_f (by decide) (br_f (by decide) (br_f (by decide) (br_t (by decide) ⟨i6, i6, nm_r (e' := upd va (n * 6 + (3 + t)) (va (n * 6 + (3 + t)) + q)) (by rw [c6]) ?_⟩))))))))
    refine H _ _ ?_ ?_ sr_uplo (fun _ _ => rfl)
    · rw [sr_v3]; exact sr_upl hv (by rw [hv3])
    · rw [sr_h03 (by omega)]; exact hh
  · subst z
    obtain ⟨o, ho2, rfl⟩ := hq4 (by omega)
    have eo : nI n * 2 + nI o = nI (n * 2 + o) := sr_ix n 2 o
    have io : vp_in (nI n * 2 + nI o) 26 := pk_in _ _ (by omega) eo
    have co : (nI n * 2 + nI o).toNatClampNeg = n * 2 + o := pk_cl _ eo
    refine nm_e (nm_e (nm_e (br_f (by decide) (br_f (by decide) (br_f (by decide) (br_f (by decide) (br_f (by decide) (br_f (by decide) (br_t (by decide) ⟨io, nm_r (e' := upd ho (n * 2 + o) (nI t)) (by rw [co]) ?_⟩)))))))))
    refine H _ _ ?_ ?_ (fun _ _ => rfl) sr_uplo
    · rw [sr_v45 (Or.inl rfl)]; exact hv
    · rw [sr_h4 (by omega)]; exact sr_upl hh rfl
  · subst z
    obtain ⟨o, ho2, rfl⟩ := hq4 (by omega)
    have eo : nI n * 2 + nI o = nI (n * 2 + o) := sr_ix n 2 o
    have io : vp_in (nI n * 2 + nI o) 26 := pk_in _ _ (by omega) eo
    have co : (nI n * 2 + nI o).toNatClampNeg = n * 2 + o := pk_cl _ eo
    have hho := hh o (by omega)
    refine nm_e (nm_e (nm_e (br_f (by decide) (br_t (by decide) ⟨io, br_c (fun z => ⟨io, nm_r (e' := upd ho (n * 2 + o) (-1)) (by rw [co]) ?_⟩) (fun z => ?_)⟩))))
    · rw [co, hho] at z
      refine H _ _ ?_ ?_ (fun _ _ => rfl) sr_uplo
      · rw [sr_v45 (Or.inr rfl)]; exact hv
      · rw [sr_h5 (by omega), if_pos z]; exact sr_upl hh rfl
    · rw [co, hho] at z
      refine H _ _ ?_ ?_ (fun _ _ => rfl) (fun _ _ => rfl)
      · rw [sr_v45 (Or.inr rfl)]; exact hv
      · rw [sr_h5 (by omega), if_neg z]; exact hh
end
section
/-! the component's walk: copying a level, a turn, to the end, the first end, the next end -/
theorem sr_x_cp88 {K O L B va ho dn tT tS : Nat → Int32} {n : Nat} (hn : n ≤ 11) (post : SX → Prop)
    (H : ∀ s : Nat → Int32, (∀ c, c < 3 → s ((n + 1) * 3 + c) = dn (n * 3 + c)) → (∀ j, j < (n + 1) * 3 → s j = dn j) → post (nI n, K, O, L, B, va, ho, s, tT, tS)) :
    ∃ N, wX_copyStateToNextLevel_88 post (nI n) N (nI (n * 3)) K O L B va ho dn tT tS := by
  have e : (nI n + 1) * 3 = nI ((n + 1) * 3) := by rw [nI_1]; exact pk_mul _ 3
  refine ⟨(n + 1) * 3 + 1, loop_i (fun f i (s : Nat → Int32) => wX_copyStateToNextLevel_88 post (nI n) f (nI i) K O L B va ho s tT tS) (fun i s => (∀ j, j < (n + 1) * 3 → s j = dn j) ∧ (∀ j, (n + 1) * 3 ≤ j → j < i + 3 → s j = dn (j - 3)) ∧ n * 3 ≤ i) ((n + 1) * 3) ?_ ?_ _ _ _ (by omega) (by omega) ⟨fun _ _ => rfl, fun j h1 h2 => by omega, Nat.le_refl _⟩⟩
  · intro f s h
    have hs1 : ∀ c, c < 3 → s ((n + 1) * 3 + c) = dn (n * 3 + c) := by
      intro c hc
      rw [h.2.1 _ (by omega) (by omega)]
      exact congrArg dn (by omega)
    exact br_t (by rw [e]; exact Int32.le_refl _) (H s hs1 h.1)
  · intro f i s hi h ih
    refine br_f (by rw [e]; exact nI_ge hi (by omega)) ⟨pk_in i 39 (by omega), pk_in (i + 3) 39 (by omega) (nI_add i 3), nm_r (e' := upd s (i + 3) (s i)) (by rw [nI_clamp (n := i) (by omega), show (nI i + 3).toNatClampNeg = i + 3 from pk_cl (i + 3) (nI_add i 3)]) (nm_r (nI_1 i) (ih _ ⟨?_, ?_, by have := h.2.2; omega⟩))⟩
    · intro j hj
      rw [pk_un (by have := h.2.2; omega)]
      exact h.1 j hj
    · intro j h1 h2
      by_cases z : j = i + 3
      · subst z
        rw [pk_us, Nat.add_sub_cancel]
        exact h.1 i hi
      · rw [pk_un z]
        exact h.2.1 j h1 (by omega)
theorem sr_x_cp49 {K O L B va ho dn tT tS : Nat → Int32} {n : Nat} (hn : n ≤ 11) (post : SX → Prop)
    (H : ∀ s : Nat → Int32, (∀ c, c < 2 → s ((n + 1) * 2 + c) = ho (n * 2 + c)) → (∀ j, j < (n + 1) * 2 → s j = ho j) → ∃ N, wX_copyStateToNextLevel_88 post (nI n) N (nI (n * 3)) K O L B va s dn tT tS) :
    ∃ N, wX_copyStateToNextLevel_49 post (nI n) N (nI (n * 2)) K O L B va ho dn tT tS := by
  have e : (nI n + 1) * 2 = nI ((n + 1) * 2) := by rw [nI_1]; exact pk_mul _ 2
  refine ⟨(n + 1) * 2 + 1, loop_i (fun f i (s : Nat → Int32) => wX_copyStateToNextLevel_49 post (nI n) f (nI i) K O L B va s dn tT tS) (fun i s => (∀ j, j < (n + 1) * 2 → s j = ho j) ∧ (∀ j, (n + 1) * 2 ≤ j → j < i + 2 → s j = ho (j - 2)) ∧ n * 2 ≤ i) ((n + 1) * 2) ?_ ?_ _ _ _ (by omega) (by omega) ⟨fun _ _ => rfl, fun j h1 h2 => by omega, Nat.le_refl _⟩⟩
  · intro f s h
    have hs1 : ∀ c, c < 2 → s ((n + 1) * 2 + c) = ho (n * 2 + c) := by
      intro c hc
      rw [h.2.1 _ (by omega) (by omega)]
      exact congrArg ho (by omega)
    exact br_t (by rw [e]; exact Int32.le_refl _) (nm_r (pk_mul n 3) (H s hs1 h.1))
  · intro f i s hi h ih
    refine br_f (by rw [e]; exact nI_ge hi (by omega)) ⟨pk_in i 26 (by omega), pk_in (i + 2) 26 (by omega) (nI_add i 2), nm_r (e' := upd s (i + 2) (s i)) (by rw [nI_clamp (n := i) (by omega), show (nI i + 2).toNatClampNeg = i + 2 from pk_cl (i + 2) (nI_add i 2)]) (nm_r (nI_1 i) (ih _ ⟨?_, ?_, by have := h.2.2; omega⟩))⟩
    · intro j hj
      rw [pk_un (by have := h.2.2; omega)]
      exact h.1 j hj
    · intro j h1 h2
      by_cases z : j = i + 2
      · subst z
        rw [pk_us, Nat.add_sub_cancel]
        exact h.1 i hi
      · rw [pk_un z]
        exact h.2.1 j h1 (by omega)
theorem sr_x_cp8 {K O L B va ho dn tT tS : Nat → Int32} {n : Nat} (hn : n ≤ 11) (post : SX → Prop)
    (H : ∀ s : Nat → Int32, (∀ c, c < 6 → s ((n + 1) * 6 + c) = va (n * 6 + c)) → (∀ j, j < (n + 1) * 6 → s j = va j) → ∃ N, wX_copyStateToNextLevel_49 post (nI n) N (nI (n * 2)) K O L B s ho dn tT tS) :
    ∃ N, wX_copyStateToNextLevel_8 post (nI n) N (nI (n * 6)) K O L B va ho dn tT tS := by
  have e : (nI n + 1) * 6 = nI ((n + 1) * 6) := by rw [nI_1]; exact pk_mul _ 6
  refine ⟨(n + 1) * 6 + 1, loop_i (fun f i (s : Nat → Int32) => wX_copyStateToNextLevel_8 post (nI n) f (nI i) K O L B s ho dn tT tS) (fun i s => (∀ j, j < (n + 1) * 6 → s j = va j) ∧ (∀ j, (n + 1) * 6 ≤ j → j < i + 6 → s j = va (j - 6)) ∧ n * 6 ≤ i) ((n + 1) * 6) ?_ ?_ _ _ _ (by omega) (by omega) ⟨fun _ _ => rfl, fun j h1 h2 => by omega, Nat.le_refl _⟩⟩
  · intro f s h
    have hs1 : ∀ c, c < 6 → s ((n + 1) * 6 + c) = va (n * 6 + c) := by
      intro c hc
      rw [h.2.1 _ (by omega) (by omega)]
      exact congrArg va (by omega)
    exact br_t (by rw [e]; exact Int32.le_refl _) (nm_r (pk_mul n 2) (H s hs1 h.1))
  · intro f i s hi h ih
    refine br_f (by rw [e]; exact nI_ge hi (by omega)) ⟨pk_in i 78 (by omega), pk_in (i + 6) 78 (by omega) (nI_add i 6), nm_r (e' := upd s (i + 6) (s i)) (by rw [nI_clamp (n := i) (by omega), show (nI i + 6).toNatClampNeg = i + 6 from pk_cl (i + 6) (nI_add i 6)]) (nm_r (nI_1 i) (ih _ ⟨?_, ?_, by have := h.2.2; omega⟩))⟩
    · intro j hj
      rw [pk_un (by have := h.2.2; omega)]
      exact h.1 j hj
    · intro j h1 h2
      by_cases z : j = i + 6
      · subst z
        rw [pk_us, Nat.add_sub_cancel]
        exact h.1 i hi
      · rw [pk_un z]
        exact h.2.1 j h1 (by omega)
theorem sr_x_copy {K O L B va ho dn tT tS : Nat → Int32} {n : Nat} (hn : n ≤ 11) (post : SX → Prop)
    (H : ∀ va' ho' dn' : Nat → Int32, (∀ c, c < 6 → va' ((n + 1) * 6 + c) = va (n * 6 + c)) → (∀ j, j < (n + 1) * 6 → va' j = va j) → (∀ c, c < 2 → ho' ((n + 1) * 2 + c) = ho (n * 2 + c)) → (∀ j, j < (n + 1) * 2 → ho' j = ho j) → (∀ c, c < 3 → dn' ((n + 1) * 3 + c) = dn (n * 3 + c)) → (∀ j, j < (n + 1) * 3 → dn' j = dn j) → post (nI n, K, O, L, B, va', ho', dn', tT, tS)) :
    wpX_copyStateToNextLevel post (nI n, K, O, L, B, va, ho, dn, tT, tS) :=
  nm_r (pk_mul n 6) (sr_x_cp8 hn post (fun va' a1 a2 => sr_x_cp49 hn post (fun ho' b1 b2 => sr_x_cp88 hn post (fun dn' c1 c2 => H va' ho' dn' a1 a2 b1 b2 c1 c2))))
theorem sr_x_turn {K O L B va ho dn tT tS : Nat → Int32} {p : Nat → Nat} {n t : Nat} (g : sr_gd K O L) (hn : n ≤ 11) (ht : t < 3) (ha : sr_A K O L B p n t = true) (hX : sr_XI K O B p n va ho dn tT tS) (post : SX → Prop)
    (H : ∀ va' ho' dn' tT' tS', sr_XI K O B (sr_pu p n t) (n + 1) va' ho' dn' tT' tS' → post (nI (n + 1), K, O, L, B, va', ho', dn', tT', tS')) :
    wpX_takeTurn post (nI n, K, O, L, B, va, ho, dn, tT, tS) (nI t) := by
  have hlt := sr_ab_lt ha
  obtain ⟨m, hm, eL⟩ := g.1 t ht
  have eL' : (L t).toNatClampNeg = m := by rw [eL]; exact nI_clamp (by omega)
  obtain ⟨hXv, hXh, hXd⟩ := hX.1 n (Nat.le_refl n)
  have hd := hXd t ht
  have hc : 4 * t + (sr_run K O B p n).2.1 t < 12 := by omega
  obtain ⟨k, hk, eK, hO2, hO4⟩ := g.2 _ hc
  have er : sr_run K O B (sr_pu p n t) (n + 1) = sr_stp K O (sr_run K O B p n) t := by
    show sr_stp K O (sr_run K O B (sr_pu p n t) n) (sr_pu p n t n) = _
    rw [sr_run_pu K O B (Nat.le_refl n), sr_pus]
  have e1 : nI n * 3 + nI t = nI (n * 3 + t) := sr_ix n 3 t
  have e2 : nI t * 4 + dn (nI n * 3 + nI t).toNatClampNeg = nI (4 * t + (sr_run K O B p n).2.1 t) := by
    rw [pk_cl _ e1, hd, Nat.mul_comm]; exact sr_ix t 4 _
  have e3 : nI (n + 1) * 3 + nI t = nI ((n + 1) * 3 + t) := sr_ix (n + 1) 3 t
  have c3 : (nI (n + 1) * 3 + nI t).toNatClampNeg = (n + 1) * 3 + t := pk_cl _ e3
  have i3 : vp_in (nI (n + 1) * 3 + nI t) 39 := pk_in _ _ (by omega) e3
  have ic : vp_in (nI (4 * t + (sr_run K O B p n).2.1 t)) 12 := pk_in _ _ hc
  refine ⟨pk_in _ _ (by omega) e1, nm_r e2 ⟨pk_in n 12 (by omega), nm_r (e' := upd tT n (nI t)) (by rw [nI_clamp (n := n) (by omega)]) ⟨pk_in n 12 (by omega), nm_r (e' := upd tS n (nI (4 * t + (sr_run K O B p n).2.1 t))) (by rw [nI_clamp (n := n) (by omega)]) ?_⟩⟩⟩
  refine sr_x_copy hn _ (fun va' ho' dn' a1 a2 b1 b2 c1 c2 => ?_)
  refine nm_r (nI_1 n) ⟨i3, i3, nm_r (e' := upd dn' ((n + 1) * 3 + t) (nI ((sr_run K O B p n).2.1 t + 1))) ?_ ⟨ic, ic, ?_⟩⟩
  · rw [c3, c1 t ht, hd, nI_1]
  rw [nI_clamp (n := 4 * t + (sr_run K O B p n).2.1 t) (by omega), eK]
  refine sr_x_carry (v := (sr_run K O B p n).1) (h := (sr_run K O B p n).2.2) (by omega) ht hk hO2 hO4 (fun c hc => (a1 c hc).trans (hXv c hc)) (fun c hc => (b1 c hc).trans (hXh c hc)) _ (fun va2 ho2 f1 f2 f3 f4 => H _ _ _ _ _ ⟨?_, ?_⟩)
  · intro d hd'
    by_cases z : d = n + 1
    · subst z
      unfold sr_XL
      rw [er]
      refine ⟨?_, ?_, ?_⟩
      · intro c hc
        rw [f1 c hc, ← eK]; rfl
      · intro c hc
        rw [f2 c hc, ← eK]; rfl
      · intro c hc
        show upd dn' ((n + 1) * 3 + t) (nI ((sr_run K O B p n).2.1 t + 1)) ((n + 1) * 3 + c) = nI (sr_pu (sr_run K O B p n).2.1 t ((sr_run K O B p n).2.1 t + 1) c)
        by_cases y : c = t
        · subst y
          rw [pk_us, sr_pus]
        · rw [pk_un (by omega), sr_pun y, c1 c hc, hXd c hc]
    · have hdn : d ≤ n := by omega
      unfold sr_XL
      rw [sr_run_pu K O B hdn]
      obtain ⟨g1, g2, g3⟩ := hX.1 d hdn
      refine ⟨?_, ?_, ?_⟩
      · intro c hc
        rw [f3 _ (by omega), a2 _ (by omega), g1 c hc]
      · intro c hc
        rw [f4 _ (by omega), b2 _ (by omega), g2 c hc]
      · intro c hc
        rw [pk_un (by omega), c2 _ (by omega), g3 c hc]
  · intro d hd'
    by_cases z : d = n
    · subst z
      rw [pk_us, pk_us, sr_pus, sr_run_pu K O B (Nat.le_refl d)]
      exact ⟨rfl, rfl⟩
    · rw [pk_un z, pk_un z, sr_pun z, sr_run_pu K O B (by omega)]
      exact hX.2 d (by omega)
theorem sr_x_run5 {K O L B : Nat → Int32} (g : sr_gd K O L) (post : SX → Prop) : ∀ (f n : Nat) (p : Nat → Nat) (va ho dn tT tS : Nat → Int32), n + f = 12 → sr_ok K O L B p n → sr_XI K O B p n va ho dn tT tS →
    (∀ va' ho' dn' tT' tS', sr_XI K O B (sr_ext K O L B f p n).1 (sr_ext K O L B f p n).2 va' ho' dn' tT' tS' → post (nI (sr_ext K O L B f p n).2, K, O, L, B, va', ho', dn', tT', tS')) →
    wX_runToEnd_5 post (f + 1) (nI n) (nI n) K O L B va ho dn tT tS := by
  intro f
  induction f with
  | zero =>
    intro n p va ho dn tT tS hn ok hX H
    exact br_t (nI_le (a := 12) (by omega) (by omega)) (H _ _ _ _ _ hX)
  | succ f ih =>
    intro n p va ho dn tT tS hn ok hX H
    refine br_f (nI_ge (b := 12) (by omega) (by decide)) (sr_x_ableF (l := 0) g (by omega) (hX.1 n (Nat.le_refl n)) (sr_at_le ok) (by omega) _ (fun c => ?_) (fun c => ?_))
    · have e : sr_ext K O L B (f + 1) p n = sr_ext K O L B f (sr_pu p n (sr_fa (sr_A K O L B p n) 0)) (n + 1) := if_pos c
      rw [e] at H
      have ne : ¬ nI (sr_fa (sr_A K O L B p n) 0) = -1 := fun z => by
        have h1 := nI_pos (n := sr_fa (sr_A K O L B p n) 0) (by omega)
        rw [z] at h1
        exact h1 (by decide)
      refine br_f ne (sr_x_turn g (by omega) c (sr_fa_sp c).2 hX _ (fun va' ho' dn' tT' tS' hX' => nm_r (nI_1 n) (ih (n + 1) _ va' ho' dn' tT' tS' (by omega) (sr_ok_pu ok c (sr_fa_sp c).2) hX' H)))
    · have e : sr_ext K O L B (f + 1) p n = (p, n) := if_neg c
      rw [e] at H
      exact br_t rfl (H _ _ _ _ _ hX)
theorem sr_x_run {K O L B va ho dn tT tS : Nat → Int32} (g : sr_gd K O L) (post : SX → Prop) {n : Nat} {p : Nat → Nat} (hn : n ≤ 12) (ok : sr_ok K O L B p n) (hX : sr_XI K O B p n va ho dn tT tS)
    (H : ∀ va' ho' dn' tT' tS', sr_XI K O B (sr_ext K O L B (12 - n) p n).1 (sr_ext K O L B (12 - n) p n).2 va' ho' dn' tT' tS' → post (nI (sr_ext K O L B (12 - n) p n).2, K, O, L, B, va', ho', dn', tT', tS')) :
    wpX_runToEnd post (nI n, K, O, L, B, va, ho, dn, tT, tS) :=
  ⟨12 - n + 1, sr_x_run5 g post (12 - n) n p va ho dn tT tS (by omega) ok hX H⟩
theorem sr_x_ff48 {K O L B va ho dn tT tS : Nat → Int32} {f0 : Int32} (post : SX → Prop)
    (H : ∀ s : Nat → Int32, (∀ c, c < 3 → s c = 0) → wpX_runToEnd post (0, K, O, L, B, va, ho, s, tT, tS)) :
    ∃ N, wX_goToFirstEnd_48 post f0 N 0 K O L B va ho dn tT tS := by
  refine loop_0 (fun f i (s : Nat → Int32) => wX_goToFirstEnd_48 post f0 f (nI i) K O L B va ho s tT tS) (fun i s => ∀ j, j < i → s j = 0) 3 _ (fun j hj => absurd hj (Nat.not_lt_zero j)) ?_ ?_
  · intro f s h
    exact br_t (by decide) (H s h)
  · intro f i s hi h ih
    refine br_f (nI_ge (b := 3) (by omega) (by decide)) ⟨pk_in i 39 (by omega), nm_r (e' := upd s i 0) (by rw [nI_clamp (n := i) (by omega)]) (nm_r (nI_1 i) (ih _ ?_))⟩
    intro j hj
    by_cases z : j = i
    · subst z; exact pk_us
    · rw [pk_un z]; exact h j (by omega)
theorem sr_x_ff28 {K O L B va ho dn tT tS : Nat → Int32} {f0 : Int32} (post : SX → Prop)
    (H : ∀ s : Nat → Int32, (∀ c, c < 2 → s c = (-1)) → ∃ N, wX_goToFirstEnd_48 post f0 N 0 K O L B va s dn tT tS) :
    ∃ N, wX_goToFirstEnd_28 post f0 N 0 K O L B va ho dn tT tS := by
  refine loop_0 (fun f i (s : Nat → Int32) => wX_goToFirstEnd_28 post f0 f (nI i) K O L B va s dn tT tS) (fun i s => ∀ j, j < i → s j = (-1)) 2 _ (fun j hj => absurd hj (Nat.not_lt_zero j)) ?_ ?_
  · intro f s h
    exact br_t (by decide) (H s h)
  · intro f i s hi h ih
    refine br_f (nI_ge (b := 2) (by omega) (by decide)) ⟨pk_in i 26 (by omega), nm_r (e' := upd s i (-1)) (by rw [nI_clamp (n := i) (by omega)]) (nm_r (nI_1 i) (ih _ ?_))⟩
    intro j hj
    by_cases z : j = i
    · subst z; exact pk_us
    · rw [pk_un z]; exact h j (by omega)
theorem sr_x_ff2 {K O L B va ho dn tT tS : Nat → Int32} {f0 : Int32} (post : SX → Prop)
    (H : ∀ s : Nat → Int32, (∀ c, c < 6 → s c = (B c)) → ∃ N, wX_goToFirstEnd_28 post f0 N 0 K O L B s ho dn tT tS) :
    ∃ N, wX_goToFirstEnd_2 post f0 N 0 K O L B va ho dn tT tS := by
  refine loop_0 (fun f i (s : Nat → Int32) => wX_goToFirstEnd_2 post f0 f (nI i) K O L B s ho dn tT tS) (fun i s => ∀ j, j < i → s j = (B j)) 6 _ (fun j hj => absurd hj (Nat.not_lt_zero j)) ?_ ?_
  · intro f s h
    exact br_t (by decide) (H s h)
  · intro f i s hi h ih
    refine br_f (nI_ge (b := 6) (by omega) (by decide)) ⟨pk_in i 6 (by omega), pk_in i 78 (by omega), nm_r (e' := upd s i (B i)) (by rw [nI_clamp (n := i) (by omega)]) (nm_r (nI_1 i) (ih _ ?_))⟩
    intro j hj
    by_cases z : j = i
    · subst z; exact pk_us
    · rw [pk_un z]; exact h j (by omega)
theorem sr_x_first {K O L B va ho dn tT tS : Nat → Int32} {f0 : Int32} (g : sr_gd K O L) (post : SX → Prop)
    (H : ∀ va' ho' dn' tT' tS', sr_XI K O B (sr_first K O L B).1 (sr_first K O L B).2 va' ho' dn' tT' tS' → post (nI (sr_first K O L B).2, K, O, L, B, va', ho', dn', tT', tS')) :
    wpX_goToFirstEnd post (f0, K, O, L, B, va, ho, dn, tT, tS) := by
  refine sr_x_ff2 post (fun va' a => sr_x_ff28 post (fun ho' b => sr_x_ff48 post (fun dn' c => ?_)))
  refine sr_x_run (n := 0) (p := fun _ => 0) g post (by omega) (fun d hd => absurd hd (Nat.not_lt_zero d)) ⟨?_, fun d hd => absurd hd (Nat.not_lt_zero d)⟩ H
  intro d hd
  have z : d = 0 := by omega
  subst z
  refine ⟨fun j hj => ?_, fun j hj => ?_, fun j hj => ?_⟩
  · rw [Nat.zero_mul, Nat.zero_add]; exact a j hj
  · rw [Nat.zero_mul, Nat.zero_add]; exact b j hj
  · rw [Nat.zero_mul, Nat.zero_add]; exact c j hj
theorem sr_x_next7 {K O L B va ho dn tT tS : Nat → Int32} (g : sr_gd K O L) {p : Nat → Nat} {n : Nat} (hn : n ≤ 12) (ok : sr_ok K O L B p n) (hX : sr_XI K O B p n va ho dn tT tS) (post : Int32 → SX → Prop) :
    ∀ (d : Nat) (x1 f0 : Int32), d ≤ n → x1 = nI d - 1 →
    (sr_nx K O L B p d = none → ∀ f1, post 0 (f1, K, O, L, B, va, ho, dn, tT, tS)) →
    (∀ s, sr_nx K O L B p d = some s → ∀ va' ho' dn' tT' tS', sr_XI K O B s.1 s.2 va' ho' dn' tT' tS' → post 1 (nI s.2, K, O, L, B, va', ho', dn', tT', tS')) →
    wX_goToNextEnd_7 post K O L B va ho dn tT tS (d + 1) x1 f0 := by
  intro d
  induction d with
  | zero =>
    intro x1 f0 _ e h0 h1
    subst e
    exact br_t (by decide) (h0 rfl f0)
  | succ d ih =>
    intro x1 f0 hd e h0 h1
    rw [nI_pred] at e
    subst e
    obtain ⟨hp, hA⟩ := ok d (by omega)
    have okd : sr_ok K O L B p d := sr_ok_le ok (by omega)
    have e1 : tT (nI d).toNatClampNeg + 1 = nI (p d + 1) := by
      rw [nI_clamp (by omega), (hX.2 d (by omega)).1, nI_1]
    have hXd : sr_XI K O B p d va ho dn tT tS := ⟨fun j hj => hX.1 j (by omega), fun j hj => hX.2 j (by omega)⟩
    refine br_f (nI_pos (by omega)) ⟨pk_in d 12 (by omega), ?_⟩
    rw [e1]
    refine sr_x_ableF g (by omega) (hXd.1 d (Nat.le_refl d)) (sr_at_le okd) (by omega) _ (fun c => ?_) (fun c => ?_)
    · have e2 : sr_nx K O L B p (d + 1) = some (sr_ext K O L B (11 - d) (sr_pu p d (sr_fa (sr_A K O L B p d) (p d + 1))) (d + 1)) := if_pos c
      have ne : ¬ nI (sr_fa (sr_A K O L B p d) (p d + 1)) = -1 := fun z => by
        have h1 := nI_pos (n := sr_fa (sr_A K O L B p d) (p d + 1)) (by omega)
        rw [z] at h1
        exact h1 (by decide)
      have e3 : 12 - (d + 1) = 11 - d := by omega
      refine br_f ne (sr_x_turn g (by omega) c (sr_fa_sp c).2 hXd _ (fun va' ho' dn' tT' tS' hX' => sr_x_run (n := d + 1) g _ (by omega) (sr_ok_pu okd c (sr_fa_sp c).2) hX' ?_))
      rw [e3]
      exact h1 _ e2
    · have e2 : sr_nx K O L B p (d + 1) = sr_nx K O L B p d := if_neg c
      rw [e2] at h0 h1
      exact br_t rfl (nm_e (ih _ _ (by omega) (sr_m1 _) h0 h1))
theorem sr_x_next {K O L B va ho dn tT tS : Nat → Int32} (g : sr_gd K O L) {s : (Nat → Nat) × Nat} (hn : s.2 ≤ 12) (ok : sr_ok K O L B s.1 s.2) (hX : sr_XI K O B s.1 s.2 va ho dn tT tS) (post : Int32 → SX → Prop)
    (h0 : sr_nx K O L B s.1 s.2 = none → ∀ f1, post 0 (f1, K, O, L, B, va, ho, dn, tT, tS))
    (h1 : ∀ s', sr_nx K O L B s.1 s.2 = some s' → ∀ va' ho' dn' tT' tS', sr_XI K O B s'.1 s'.2 va' ho' dn' tT' tS' → post 1 (nI s'.2, K, O, L, B, va', ho', dn', tT', tS')) :
    wpX_goToNextEnd post (nI s.2, K, O, L, B, va, ho, dn, tT, tS) :=
  nm_e ⟨s.2 + 1, sr_x_next7 g hn ok hX post s.2 _ _ (Nat.le_refl _) rfl h0 h1⟩
end
section
/-! the reference's walk: replay, extend, first, next -/
def sr_YM (s : sr_S) (va ac ho : Nat → Int32) : Prop := (∀ c, c < 6 → va c = s.1 c) ∧ (∀ t, t < 3 → ac t = nI (s.2.1 t)) ∧ (∀ l, l < 2 → ho l = s.2.2 l)
def sr_YT (K O B : Nat → Int32) (p : Nat → Nat) (n : Nat) (st : Nat → Int32) : Prop := ∀ d, d < n → st d = nI (4 * p d + (sr_run K O B p d).2.1 (p d))
def sr_YI (K O B : Nat → Int32) (p : Nat → Nat) (n : Nat) (tu st va ac ho : Nat → Int32) : Prop := (∀ d, d < n → tu d = nI (p d)) ∧ sr_YT K O B p n st ∧ sr_YM (sr_run K O B p n) va ac ho
theorem sr_upm {w i : Nat} {va v : Nat → Int32} {x y : Int32} (h : ∀ c, c < w → va c = v c) (e : x = y) : ∀ c, c < w → upd va i x c = upd v i y c := by
  intro c hc
  by_cases z : c = i
  · subst z; rw [pk_us, pk_us, e]
  · rw [pk_un z, pk_un z, h c hc]
theorem sr_upid {w i : Nat} {va v : Nat → Int32} {x : Int32} (h : ∀ c, c < w → va c = v c) (e : v i = x) : ∀ c, c < w → upd va i x c = v c := by
  intro c hc
  by_cases z : c = i
  · subst z; rw [pk_us, e]
  · rw [pk_un z, h c hc]
theorem sr_and1 {o : Nat} (h : o ≤ 1) : nI o &&& 1 = nI o := by
  rcases (by omega : o = 0 ∨ o = 1) with z | z <;> subst z <;> decide
theorem sr_y_can {K O L B va ac ho tu st : Nat → Int32} {f0 : Int32} {s : sr_S} {t : Nat} (g : sr_gd K O L) (ht : t < 3) (hY : sr_YM s va ac ho) (hl : s.2.1 t ≤ (L t).toNatClampNeg) (hg : sr_hg s.2.2)
    (post : Int32 → Prop) (h1 : sr_ab K O L s t = true → post 1) (h0 : sr_ab K O L s t = false → post 0) : wpY_can post (f0, L, K, O, B, tu, st, va, ac, ho) (nI t) := by
  obtain ⟨m, hm, eL⟩ := g.1 t ht
  have eL' : (L t).toNatClampNeg = m := by rw [eL]; exact nI_clamp (by omega)
  have e2 : ac (nI t).toNatClampNeg = nI (s.2.1 t) := by rw [nI_clamp (by omega), hY.2.1 t ht]
  have e3 : L (nI t).toNatClampNeg = nI m := by rw [nI_clamp (by omega), eL]
  have e4 : 4 * nI t + ac (nI t).toNatClampNeg = nI (4 * t + s.2.1 t) := by rw [e2]; exact sr_ix 4 t _
  refine ⟨pk_in t 3 ht, pk_in t 3 ht, ?_⟩
  refine pk_lt (s.2.1 t) m (fun hlt => ⟨pk_in t 3 ht, nm_r e4 ?_⟩) (fun hge => h0 (sr_ab_0 (by omega))) e2 e3
  have hc : 4 * t + s.2.1 t < 12 := by omega
  obtain ⟨k, hk, eK, _, hO⟩ := g.2 _ hc
  have e5 : K (nI (4 * t + s.2.1 t)).toNatClampNeg = nI k := by rw [nI_clamp (by omega), eK]
  refine ⟨pk_in _ _ hc, pk_eq k 4 (fun k4 => ⟨pk_in _ _ hc, ?_⟩) (fun k4 => h1 (sr_ab_1 (by omega) ?_)) e5⟩
  · obtain ⟨o, ho1, eO⟩ := hO (by omega)
    have e7 : O (nI (4 * t + s.2.1 t)).toNatClampNeg &&& 1 = nI o := by rw [nI_clamp (by omega), eO]; exact sr_and1 ho1
    have e8 : ho (O (nI (4 * t + s.2.1 t)).toNatClampNeg &&& 1).toNatClampNeg = s.2.2 (O (4 * t + s.2.1 t)).toNatClampNeg := by
      rw [pk_cl _ e7, eO, nI_clamp (by omega)]
      exact hY.2.2 o (by omega)
    have k4' : K (4 * t + s.2.1 t) = 4 := by rw [eK, k4]; rfl
    refine ⟨pk_in _ _ (by omega) e7, ?_⟩
    rw [e8]
    rcases hg (O (4 * t + s.2.1 t)).toNatClampNeg with z | ⟨j, hj, z⟩
    · exact br_f (by rw [z]; decide) (h1 (sr_ab_2 (by omega) z))
    · refine br_t (by rw [z]; exact nI_pos' (by omega)) (h0 (sr_ab_3 k4' (fun y => ?_)))
      have h1 := nI_pos (n := j) (by omega)
      rw [← z, y] at h1
      exact h1 (by decide)
  · rw [eK]
    intro z
    exact k4 ((nI_eq (b := 4) (by omega) (by omega)).mp z)
theorem sr_y_153 {K O L B va ac ho tu st : Nat → Int32} {f0 : Int32} {s : sr_S} {t : Nat} (ht : t < 3) (hv : ∀ c, c < 6 → va c = (sr_stp K O s t).1 c) (hh : ∀ l, l < 2 → ho l = (sr_stp K O s t).2.2 l) (ha : ∀ t, t < 3 → ac t = nI (s.2.1 t)) (post : SY → Prop)
    (H : ∀ va' ac' ho', sr_YM (sr_stp K O s t) va' ac' ho' → post (f0, L, K, O, B, tu, st, va', ac', ho')) : wY_carryOut_153 post (nI t) f0 L K O B tu st va ac ho := by
  refine ⟨pk_in t 3 ht, pk_in t 3 ht, nm_r (e' := upd ac t (nI (s.2.1 t + 1))) (by rw [nI_clamp (n := t) (by omega), ha t ht, nI_1]) (H _ _ _ ⟨hv, ?_, hh⟩)⟩
  intro j hj
  show upd ac t (nI (s.2.1 t + 1)) j = nI (sr_pu s.2.1 t (s.2.1 t + 1) j)
  by_cases z : j = t
  · subst z; rw [pk_us, sr_pus]
  · rw [pk_un z, sr_pun z, ha j hj]
theorem sr_y_carry {K O L B va ac ho tu st : Nat → Int32} {f0 : Int32} {s : sr_S} {t : Nat} (g : sr_gd K O L) (ht : t < 3) (hY : sr_YM s va ac ho) (hl : s.2.1 t < (L t).toNatClampNeg) (post : SY → Prop)
    (H : ∀ va' ac' ho', sr_YM (sr_stp K O s t) va' ac' ho' → post (f0, L, K, O, B, tu, st, va', ac', ho')) : wpY_carryOut post (f0, L, K, O, B, tu, st, va, ac, ho) (nI t) := by
  obtain ⟨m, hm, eL⟩ := g.1 t ht
  have eL' : (L t).toNatClampNeg = m := by rw [eL]; exact nI_clamp (by omega)
  obtain ⟨hv, ha, hh⟩ := hY
  have hc : 4 * t + s.2.1 t < 12 := by omega
  obtain ⟨k, hk, eK, hO2, hO4⟩ := g.2 _ hc
  have e4 : 4 * nI t + ac (nI t).toNatClampNeg = nI (4 * t + s.2.1 t) := by rw [nI_clamp (by omega), ha t ht]; exact sr_ix 4 t _
  have e5 : K (nI (4 * t + s.2.1 t)).toNatClampNeg = nI k := by rw [nI_clamp (by omega), eK]
  have e6 : O (nI (4 * t + s.2.1 t)).toNatClampNeg = O (4 * t + s.2.1 t) := by rw [nI_clamp (by omega)]
  have e7 : 3 + nI t = nI (3 + t) := nI_add 3 t
  have c7 : (3 + nI t).toNatClampNeg = 3 + t := pk_cl _ e7
  have i7 : vp_in (3 + nI t) 6 := pk_in _ _ (by omega) e7
  have hv3 := hv (3 + t) (by omega)
  have s1 : (sr_stp K O s t).1 = sr_vst (nI k) (O (4 * t + s.2.1 t)) t s.1 := by rw [← eK]; rfl
  have s2 : (sr_stp K O s t).2.2 = sr_hst (nI k) (O (4 * t + s.2.1 t)) t s.2.2 := by rw [← eK]; rfl
  refine ⟨pk_in t 3 ht, nm_r e4 ⟨pk_in _ _ hc, nm_r e5 ⟨pk_in _ _ hc, nm_r e6 ⟨i7, nm_r (e' := va (3 + t)) (by rw [c7]) ?_⟩⟩⟩⟩
  rcases (by omega : k = 0 ∨ k = 1 ∨ k = 2 ∨ k = 3 ∨ k = 4 ∨ k = 5) with z | z | z | z | z | z
  · subst z
    obtain ⟨o, ho2, eO⟩ := hO2 (by omega)
    rw [eO] at s1 s2 ⊢
    have hvo := hv o (by omega)
    rw [sr_v0 (by omega)] at s1
    rw [sr_h03 (by omega)] at s2
    refine br_f (by decide) ⟨pk_in o 6 (by omega), nm_r (e' := va o) (by rw [nI_clamp (n := o) (by omega)]) (br_f (by decide) ⟨i7, nm_r (e' := upd va (3 + t) (va o)) (by rw [c7]) (br_t (by decide) ⟨pk_in o 6 (by omega), nm_r (e' := upd (upd va (3 + t) (va o)) o (va o)) (by rw [nI_clamp (n := o) (by omega)]) (sr_y_153 ht ?_ ?_ ha post H)⟩)⟩)⟩
    · rw [s1]; exact sr_upid (sr_upm hv hvo) (by rw [pk_un (by omega)]; exact hvo.symm)
    · rw [s2]; exact hh
  · subst z
    obtain ⟨o, ho2, eO⟩ := hO2 (by omega)
    rw [eO] at s1 s2 ⊢
    have hvo := hv o (by omega)
    rw [sr_v1 (by omega)] at s1
    rw [sr_h03 (by omega)] at s2
    refine br_f (by decide) ⟨pk_in o 6 (by omega), nm_r (e' := va o) (by rw [nI_clamp (n := o) (by omega)]) (br_t (by decide) ⟨i7, nm_r (e' := upd va (3 + t) (va (3 + t))) (by rw [c7]) (br_f (by decide) ⟨pk_in o 6 (by omega), nm_r (e' := upd (upd va (3 + t) (va (3 + t))) o (va (3 + t))) (by rw [nI_clamp (n := o) (by omega)]) (sr_y_153 ht ?_ ?_ ha post H)⟩)⟩)⟩
    · rw [s1]; exact sr_upm (sr_upid hv hv3.symm) hv3
    · rw [s2]; exact hh
  · subst z
    obtain ⟨o, ho2, eO⟩ := hO2 (by omega)
    rw [eO] at s1 s2 ⊢
    have hvo := hv o (by omega)
    rw [sr_v2 (by omega)] at s1
    rw [sr_h03 (by omega)] at s2
    refine br_f (by decide) ⟨pk_in o 6 (by omega), nm_r (e' := va o) (by rw [nI_clamp (n := o) (by omega)]) (br_f (by decide) ⟨i7, nm_r (e' := upd va (3 + t) (va o)) (by rw [c7]) (br_f (by decide) ⟨pk_in o 6 (by omega), nm_r (e' := upd (upd va (3 + t) (va o)) o (va (3 + t))) (by rw [nI_clamp (n := o) (by omega)]) (sr_y_153 ht ?_ ?_ ha post H)⟩)⟩)⟩
    · rw [s1]; exact sr_upm (sr_upm hv hvo) hv3
    · rw [s2]; exact hh
  · subst z
    rw [sr_v3] at s1
    rw [sr_h03 (by omega)] at s2
    refine br_t (by decide) (br_t (by decide) ⟨i7, nm_r (e' := upd va (3 + t) (va (3 + t) + O (4 * t + s.2.1 t))) (by rw [c7]) (sr_y_153 ht ?_ ?_ ha post H)⟩)
    · rw [s1]; exact sr_upm hv (by rw [hv3])
    · rw [s2]; exact hh
  · subst z
    obtain ⟨o, ho1, eO⟩ := hO4 (by omega)
    rw [eO] at s1 s2 ⊢
    rw [sr_v45 (Or.inl rfl)] at s1
    rw [sr_h4 (by omega)] at s2
    have ea : (nI o &&& 1) = nI o := sr_and1 ho1
    have ia : vp_in (nI o &&& 1) 2 := pk_in _ _ (by omega) ea
    have ca : (nI o &&& 1).toNatClampNeg = o := pk_cl _ ea
    refine br_t (by decide) (br_f (by decide) (br_t (by decide) ⟨ia, nm_r (e' := upd ho o (nI t)) (by rw [ca]) (sr_y_153 ht ?_ ?_ ha post H)⟩))
    · rw [s1]; exact hv
    · rw [s2]; exact sr_upm hh rfl
  · subst z
    obtain ⟨o, ho1, eO⟩ := hO4 (by omega)
    rw [eO] at s1 s2 ⊢
    rw [sr_v45 (Or.inr rfl)] at s1
    rw [sr_h5 (by omega)] at s2
    have ea : (nI o &&& 1) = nI o := sr_and1 ho1
    have ia : vp_in (nI o &&& 1) 2 := pk_in _ _ (by omega) ea
    have ca : (nI o &&& 1).toNatClampNeg = o := pk_cl _ ea
    have hho := hh o (by omega)
    refine br_t (by decide) (br_f (by decide) (br_f (by decide) ⟨ia, br_c (fun z => ⟨ia, nm_r (e' := upd ho o (-1)) (by rw [ca]) (sr_y_153 ht ?_ ?_ ha post H)⟩) (fun z => sr_y_153 ht ?_ ?_ ha post H)⟩))
    · rw [s1]; exact hv
    · rw [ca, hho] at z
      rw [s2, if_pos z]; exact sr_upm hh rfl
    · rw [s1]; exact hv
    · rw [ca, hho] at z
      rw [s2, if_neg z]; exact hh
theorem sr_y_r62 {K O L B tu : Nat → Int32} {f0 : Int32} {p : Nat → Nat} {n : Nat} (g : sr_gd K O L) (hn : n ≤ 12) (ok : sr_ok K O L B p n) (htu : ∀ d, d < n → tu d = nI (p d)) (post : SY → Prop)
    (H : ∀ st' va' ac' ho', sr_YI K O B p n tu st' va' ac' ho' → post (f0, L, K, O, B, tu, st', va', ac', ho')) :
    ∀ (r i : Nat) (st va ac ho : Nat → Int32), i + r = n → sr_YT K O B p i st → sr_YM (sr_run K O B p i) va ac ho → wY_replay_62 post (nI n) (r + 1) (nI i) f0 L K O B tu st va ac ho := by
  intro r
  induction r with
  | zero =>
    intro i st va ac ho hi hT hM
    have z : i = n := by omega
    subst z
    exact br_t (Int32.le_refl _) (H _ _ _ _ ⟨htu, hT, hM⟩)
  | succ r ih =>
    intro i st va ac ho hi hT hM
    obtain ⟨hp, hA⟩ := ok i (by omega)
    have et : tu (nI i).toNatClampNeg = nI (p i) := by rw [nI_clamp (by omega), htu i (by omega)]
    have ii : vp_in (nI i) 12 := pk_in i 12 (by omega)
    refine br_f (nI_ge (by omega) (by omega)) ?_
    rw [et]
    refine ⟨ii, ii, pk_in _ 3 hp, ii, nm_r (e' := upd st i (nI (4 * p i + (sr_run K O B p i).2.1 (p i)))) ?_ ⟨ii, sr_y_carry g hp hM (sr_ab_lt hA) _ (fun va' ac' ho' hM' => nm_r (nI_1 i) (ih (i + 1) _ va' ac' ho' (by omega) ?_ hM'))⟩⟩
    · rw [nI_clamp (n := i) (by omega), nI_clamp (n := p i) (by omega), hM.2.1 _ hp]
      exact congrArg (upd st i) (sr_ix 4 (p i) _)
    · intro d hd
      by_cases z : d = i
      · subst z; exact pk_us
      · rw [pk_un z]; exact hT d (by omega)
theorem sr_y_r28 {K O L B tu st va ac ho : Nat → Int32} {x1 f0 : Int32} (post : SY → Prop)
    (H : ∀ ac' : Nat → Int32, (∀ c, c < 3 → ac' c = 0) → ∃ N, wY_replay_62 post x1 N 0 f0 L K O B tu st va ac' (upd (upd ho 0 (-1)) 1 (-1))) :
    ∃ N, wY_replay_28 post x1 f0 N 0 L K O B tu st va ac ho := by
  refine loop_0 (fun f i (s : Nat → Int32) => wY_replay_28 post x1 f0 f (nI i) L K O B tu st va s ho) (fun i s => ∀ j, j < i → s j = 0) 3 _ (fun j hj => absurd hj (Nat.not_lt_zero j)) ?_ ?_
  · intro f s h
    exact br_t (by decide) (nm_e (nm_e (H s h)))
  · intro f i s hi h ih
    refine br_f (nI_ge (b := 3) (by omega) (by decide)) ⟨pk_in i 3 (by omega), nm_r (e' := upd s i 0) (by rw [nI_clamp (n := i) (by omega)]) (nm_r (nI_1 i) (ih _ ?_))⟩
    intro j hj
    by_cases z : j = i
    · subst z; exact pk_us
    · rw [pk_un z]; exact h j (by omega)
theorem sr_y_r2 {K O L B tu st va ac ho : Nat → Int32} {x1 f0 : Int32} (post : SY → Prop)
    (H : ∀ va' : Nat → Int32, (∀ c, c < 6 → va' c = B c) → ∃ N, wY_replay_28 post x1 f0 N 0 L K O B tu st va' ac ho) :
    ∃ N, wY_replay_2 post x1 f0 N 0 L K O B tu st va ac ho := by
  refine loop_0 (fun f i (s : Nat → Int32) => wY_replay_2 post x1 f0 f (nI i) L K O B tu st s ac ho) (fun i s => ∀ j, j < i → s j = B j) 6 _ (fun j hj => absurd hj (Nat.not_lt_zero j)) ?_ ?_
  · intro f s h
    exact br_t (by decide) (H s h)
  · intro f i s hi h ih
    refine br_f (nI_ge (b := 6) (by omega) (by decide)) ⟨pk_in i 6 (by omega), pk_in i 6 (by omega), nm_r (e' := upd s i (B i)) (by rw [nI_clamp (n := i) (by omega)]) (nm_r (nI_1 i) (ih _ ?_))⟩
    intro j hj
    by_cases z : j = i
    · subst z; exact pk_us
    · rw [pk_un z]; exact h j (by omega)
theorem sr_y_replay {K O L B tu st va ac ho : Nat → Int32} {f0 : Int32} {p : Nat → Nat} {n : Nat} (g : sr_gd K O L) (hn : n ≤ 12) (ok : sr_ok K O L B p n) (htu : ∀ d, d < n → tu d = nI (p d)) (post : SY → Prop)
    (H : ∀ st' va' ac' ho', sr_YI K O B p n tu st' va' ac' ho' → post (f0, L, K, O, B, tu, st', va', ac', ho')) : wpY_replay post (f0, L, K, O, B, tu, st, va, ac, ho) (nI n) := by
  refine sr_y_r2 post (fun va' a => sr_y_r28 post (fun ac' b => ⟨n + 1, sr_y_r62 g hn ok htu post H n 0 _ _ _ _ (by omega) (fun d hd => absurd hd (Nat.not_lt_zero d)) ⟨a, b, ?_⟩⟩))
  intro l hl
  rcases (by omega : l = 0 ∨ l = 1) with z | z <;> subst z <;> rfl
theorem sr_y_ext {K O L B : Nat → Int32} (g : sr_gd K O L) (post : SY → Prop) : ∀ (F n t : Nat) (p : Nat → Nat) (tu st va ac ho : Nat → Int32), n ≤ 12 → t ≤ 3 → 4 * (12 - n) + (3 - t) < F → sr_ok K O L B p n → sr_YI K O B p n tu st va ac ho →
    sr_fa (sr_A K O L B p n) 0 = sr_fa (sr_A K O L B p n) t →
    (∀ tu' st' va' ac' ho', sr_YI K O B (sr_ext K O L B (12 - n) p n).1 (sr_ext K O L B (12 - n) p n).2 tu' st' va' ac' ho' → post (nI (sr_ext K O L B (12 - n) p n).2, L, K, O, B, tu', st', va', ac', ho')) →
    wY_extend_2 post F (nI t) (nI n) L K O B tu st va ac ho := by
  intro F
  induction F with
  | zero => intro n t p tu st va ac ho _ _ h; omega
  | succ F ih =>
    intro n t p tu st va ac ho hn ht hF ok hY hfa H
    by_cases n12 : n = 12
    · subst n12
      have h2 := H _ _ _ _ _ hY
      exact br_c (fun _ => h2) (fun _ => br_t (by decide) h2)
    · obtain ⟨f, hf⟩ : ∃ f, 12 - n = f + 1 := ⟨11 - n, by omega⟩
      have hf' : 12 - (n + 1) = f := by omega
      rw [hf] at H
      by_cases t3 : t = 3
      · subst t3
        rw [sr_fa_ge (l := 3) (by omega)] at hfa
        have e : sr_ext K O L B (f + 1) p n = (p, n) := if_neg (by omega)
        rw [e] at H
        exact br_t (by decide) (H _ _ _ _ _ hY)
      · refine br_f (nI_ge (b := 3) (by omega) (by decide)) (br_f (nI_ge (b := 12) (by omega) (by decide)) (sr_y_can g (by omega) hY.2.2 (sr_at_le ok t) (sr_run_h ok) _ (fun hA => ?_) (fun hA => ?_)))
        · have hA' : sr_A K O L B p n t = true := hA
          rw [sr_fa_t (by omega) hA'] at hfa
          have e : sr_ext K O L B (f + 1) p n = sr_ext K O L B f (sr_pu p n (sr_fa (sr_A K O L B p n) 0)) (n + 1) := if_pos (by omega)
          rw [e, hfa] at H
          have er : sr_run K O B (sr_pu p n t) (n + 1) = sr_stp K O (sr_run K O B p n) t := by
            show sr_stp K O (sr_run K O B (sr_pu p n t) n) (sr_pu p n t n) = _
            rw [sr_run_pu K O B (Nat.le_refl n), sr_pus]
          refine br_f (by decide) ⟨pk_in n 12 (by omega), nm_r (e' := upd tu n (nI t)) (by rw [nI_clamp (n := n) (by omega)]) ⟨pk_in t 3 (by omega), pk_in n 12 (by omega), nm_r (e' := upd st n (nI (4 * t + (sr_run K O B p n).2.1 t))) ?_ (nm_r (nI_1 n) (sr_y_carry g (by omega) hY.2.2 (sr_ab_lt hA) _ (fun va' ac' ho' hM => ?_)))⟩⟩
          · rw [nI_clamp (n := n) (by omega), nI_clamp (n := t) (by omega), hY.2.2.2.1 t (by omega)]
            exact congrArg (upd st n) (sr_ix 4 t _)
          · refine ih (n + 1) 0 (sr_pu p n t) _ _ va' ac' ho' (by omega) (by omega) (by omega) (sr_ok_pu ok (by omega) hA') ⟨?_, ?_, ?_⟩ rfl (by rw [hf']; exact H)
            · intro d hd
              by_cases z : d = n
              · subst z; rw [pk_us, sr_pus]
              · rw [pk_un z, sr_pun z]; exact hY.1 d (by omega)
            · intro d hd
              by_cases z : d = n
              · subst z; rw [pk_us, sr_pus, sr_run_pu K O B (Nat.le_refl d)]
              · rw [pk_un z, sr_pun z, sr_run_pu K O B (by omega)]; exact hY.2.1 d (by omega)
            · rw [er]; exact hM
        · have hA' : sr_A K O L B p n t = false := hA
          rw [sr_fa_f (by omega) hA'] at hfa
          exact br_t rfl (nm_r (nI_1 t) (ih n (t + 1) p tu st va ac ho hn (by omega) (by omega) ok hY hfa (by rw [hf]; exact H)))
theorem sr_y_extend {K O L B tu st va ac ho : Nat → Int32} (g : sr_gd K O L) (post : SY → Prop) {n : Nat} {p : Nat → Nat} (hn : n ≤ 12) (ok : sr_ok K O L B p n) (hY : sr_YI K O B p n tu st va ac ho)
    (H : ∀ tu' st' va' ac' ho', sr_YI K O B (sr_ext K O L B (12 - n) p n).1 (sr_ext K O L B (12 - n) p n).2 tu' st' va' ac' ho' → post (nI (sr_ext K O L B (12 - n) p n).2, L, K, O, B, tu', st', va', ac', ho')) :
    wpY_extend post (nI n, L, K, O, B, tu, st, va, ac, ho) :=
  ⟨4 * (12 - n) + 3 + 1, sr_y_ext g post _ n 0 p tu st va ac ho hn (by omega) (by omega) ok hY rfl H⟩
theorem sr_y_first {K O L B tu st va ac ho : Nat → Int32} {f0 : Int32} (g : sr_gd K O L) (post : SY → Prop)
    (H : ∀ tu' st' va' ac' ho', sr_YI K O B (sr_first K O L B).1 (sr_first K O L B).2 tu' st' va' ac' ho' → post (nI (sr_first K O L B).2, L, K, O, B, tu', st', va', ac', ho')) :
    wpY_first post (f0, L, K, O, B, tu, st, va, ac, ho) := by
  refine sr_y_replay (n := 0) (p := fun _ => 0) g (by omega) (fun d hd => absurd hd (Nat.not_lt_zero d)) (fun d hd => absurd hd (Nat.not_lt_zero d)) _ (fun st' va' ac' ho' hY => ?_)
  exact sr_y_extend (n := 0) (p := fun _ => 0) g _ (by omega) (fun d hd => absurd hd (Nat.not_lt_zero d)) hY H
theorem sr_y_next25 {K O L B tu st va ac ho : Nat → Int32} {f0 : Int32} (g : sr_gd K O L) {p : Nat → Nat} {d : Nat} (hd : d ≤ 11) (ok : sr_ok K O L B p d) (hY : sr_YI K O B p d tu st va ac ho) (post : Int32 → SY → Prop)
    (J : Int32 → Int32 → (Nat → Int32) → (Nat → Int32) → (Nat → Int32) → (Nat → Int32) → (Nat → Int32) → (Nat → Int32) → (Nat → Int32) → (Nat → Int32) → (Nat → Int32) → Prop) :
    ∀ (r l : Nat), l + r = 3 →
    (sr_fa (sr_A K O L B p d) l < 3 → ∀ s, s = sr_ext K O L B (11 - d) (sr_pu p d (sr_fa (sr_A K O L B p d) l)) (d + 1) → ∀ tu' st' va' ac' ho', sr_YI K O B s.1 s.2 tu' st' va' ac' ho' → post 1 (nI s.2, L, K, O, B, tu', st', va', ac', ho')) →
    (¬ sr_fa (sr_A K O L B p d) l < 3 → J (nI d - 1) f0 L K O B tu st va ac ho) →
    wY_next_25 post J (nI d) f0 L K O B tu st va ac ho (r + 1) (nI l) := by
  intro r
  induction r with
  | zero =>
    intro l hl h1 h0
    have e : sr_fa (sr_A K O L B p d) l = 3 := sr_fa_ge (by omega)
    exact br_t (nI_le (a := 3) (by omega) (by omega)) (nm_r (sr_m1 _) (h0 (by omega)))
  | succ r ih =>
    intro l hl h1 h0
    refine br_f (nI_ge (b := 3) (by omega) (by decide)) (sr_y_can g (by omega) hY.2.2 (sr_at_le ok l) (sr_run_h ok) _ (fun hA => ?_) (fun hA => ?_))
    · have hA' : sr_A K O L B p d l = true := hA
      rw [sr_fa_t (by omega) hA'] at h1
      have ok' := sr_ok_pu ok (by omega) hA'
      have e3 : 12 - (d + 1) = 11 - d := by omega
      refine br_f (by decide) ⟨pk_in d 12 (by omega), nm_r (e' := upd tu d (nI l)) (by rw [nI_clamp (n := d) (by omega)]) (nm_r (nI_1 d) (sr_y_replay g (by omega) ok' ?_ _ (fun st' va' ac' ho' hY' => sr_y_extend g _ (by omega) ok' hY' ?_)))⟩
      · intro j hj
        by_cases z : j = d
        · subst z; rw [pk_us, sr_pus]
        · rw [pk_un z, sr_pun z]; exact hY.1 j (by omega)
      · rw [e3]; exact h1 (by omega) _ rfl
    · have hA' : sr_A K O L B p d l = false := hA
      rw [sr_fa_f (by omega) hA'] at h1 h0
      exact br_t rfl (nm_r (nI_1 l) (ih (l + 1) (by omega) h1 h0))
theorem sr_y_next7 {K O L B tu : Nat → Int32} (g : sr_gd K O L) {p : Nat → Nat} {n : Nat} (hn : n ≤ 12) (ok : sr_ok K O L B p n) (htu : ∀ d, d < n → tu d = nI (p d)) (post : Int32 → SY → Prop) (f0 : Int32) :
    ∀ (d : Nat) (x1 : Int32) (st va ac ho : Nat → Int32), d ≤ n → x1 = nI d - 1 →
    (sr_nx K O L B p d = none → ∀ st' va' ac' ho', post 0 (f0, L, K, O, B, tu, st', va', ac', ho')) →
    (∀ s, sr_nx K O L B p d = some s → ∀ tu' st' va' ac' ho', sr_YI K O B s.1 s.2 tu' st' va' ac' ho' → post 1 (nI s.2, L, K, O, B, tu', st', va', ac', ho')) →
    wY_next_7 post (d + 1) x1 f0 L K O B tu st va ac ho := by
  intro d
  induction d with
  | zero =>
    intro x1 st va ac ho _ e h0 h1
    subst e
    exact br_t (by decide) (h0 rfl _ _ _ _)
  | succ d ih =>
    intro x1 st va ac ho hd e h0 h1
    rw [nI_pred] at e
    subst e
    obtain ⟨hp, hA⟩ := ok d (by omega)
    have okd : sr_ok K O L B p d := sr_ok_le ok (by omega)
    have e1 : tu (nI d).toNatClampNeg + 1 = nI (p d + 1) := by
      rw [nI_clamp (by omega), htu d (by omega), nI_1]
    refine br_f (nI_pos (by omega)) (sr_y_replay g (by omega) okd (fun j hj => htu j (by omega)) _ (fun st' va' ac' ho' hY => ⟨pk_in d 12 (by omega), nm_r e1 ⟨3 - (p d + 1) + 1, sr_y_next25 g (by omega) okd hY post _ _ (p d + 1) (by omega) (fun c => ?_) (fun c => ?_)⟩⟩))
    · have e2 : sr_nx K O L B p (d + 1) = some (sr_ext K O L B (11 - d) (sr_pu p d (sr_fa (sr_A K O L B p d) (p d + 1))) (d + 1)) := if_pos c
      intro s es
      exact h1 s (by rw [e2, es])
    · have e2 : sr_nx K O L B p (d + 1) = sr_nx K O L B p d := if_neg c
      rw [e2] at h0 h1
      exact ih _ _ _ _ _ (by omega) rfl h0 h1
theorem sr_y_next {K O L B tu st va ac ho : Nat → Int32} (g : sr_gd K O L) {s : (Nat → Nat) × Nat} (hn : s.2 ≤ 12) (ok : sr_ok K O L B s.1 s.2) (htu : ∀ d, d < s.2 → tu d = nI (s.1 d)) (post : Int32 → SY → Prop)
    (h0 : sr_nx K O L B s.1 s.2 = none → ∀ st' va' ac' ho', post 0 (nI s.2, L, K, O, B, tu, st', va', ac', ho'))
    (h1 : ∀ s', sr_nx K O L B s.1 s.2 = some s' → ∀ tu' st' va' ac' ho', sr_YI K O B s'.1 s'.2 tu' st' va' ac' ho' → post 1 (nI s'.2, L, K, O, B, tu', st', va', ac', ho')) :
    wpY_next post (nI s.2, L, K, O, B, tu, st, va, ac, ho) :=
  nm_e ⟨s.2 + 1, sr_y_next7 g hn ok htu post _ s.2 _ _ _ _ _ (Nat.le_refl _) rfl h0 h1⟩
end
section
/-! touching steps, and the first schedule of its class -/
def sr_b (b : Bool) : Int32 := if b = true then 1 else 0
theorem sr_b_n (b : Bool) : narrow .boolean (.int (sr_b b)) = .int (sr_b b) := by cases b <;> rfl
def sr_tc (K O : Nat → Int32) (i j : Nat) : Bool :=
  decide (O i = O j ∧ (((K i).toNatClampNeg ≤ 2 ∧ (K j).toNatClampNeg ≤ 2 ∧ ¬ ((K i).toNatClampNeg = 0 ∧ (K j).toNatClampNeg = 0)) ∨ (4 ≤ (K i).toNatClampNeg ∧ 4 ≤ (K j).toNatClampNeg)))
def sr_sd (K O B : Nat → Int32) (p : Nat → Nat) (d : Nat) : Nat := 4 * p d + (sr_run K O B p d).2.1 (p d)
def sr_cb (K O B : Nat → Int32) (p : Nat → Nat) (j : Nat) : Nat → Bool
  | 0 => false
  | i + 1 => if p i = p j then false else if sr_tc K O (sr_sd K O B p i) (sr_sd K O B p j) = true then false else if p j < p i then true else sr_cb K O B p j i
def sr_fs (K O B : Nat → Int32) (p : Nat → Nat) : Nat → Bool
  | 0 => true
  | n + 1 => sr_fs K O B p n && !sr_cb K O B p n n
theorem sr_fs_f {K O B : Nat → Int32} {p : Nat → Nat} {j : Nat} (h : sr_cb K O B p j j = true) : ∀ n, j < n → sr_fs K O B p n = false := by
  intro n
  induction n with
  | zero => intro h; omega
  | succ n ih =>
    intro hn
    show (sr_fs K O B p n && !sr_cb K O B p n n) = false
    by_cases z : j = n
    · subst z; rw [h]; exact Bool.and_false _
    · rw [ih (by omega)]; rfl
theorem sr_fs_t {K O B : Nat → Int32} {p : Nat → Nat} {j : Nat} (h : sr_cb K O B p j j = false) (hj : sr_fs K O B p j = true) : sr_fs K O B p (j + 1) = true := by
  show (sr_fs K O B p j && !sr_cb K O B p j j) = true
  rw [h, hj]; rfl
theorem sr_sd_lt {K O L B : Nat → Int32} {p : Nat → Nat} {n d : Nat} (g : sr_gd K O L) (ok : sr_ok K O L B p n) (hd : d < n) : sr_sd K O B p d < 12 := by
  obtain ⟨hp, hA⟩ := ok d hd
  obtain ⟨m, hm, eL⟩ := g.1 _ hp
  have := sr_ab_lt hA
  rw [eL, nI_clamp (by omega)] at this
  unfold sr_sd
  omega
theorem sr_x_acc {a : Nat} {x : Int32} (ha : a ≤ 5) (hx : x = nI a) (post : Int32 → Prop) (h1 : a ≤ 2 → post 1) (h0 : ¬ a ≤ 2 → post 0) : wpX_isAccess post x :=
  pk_eq a 0 (fun _ => h1 (by omega)) (fun _ => pk_eq a 1 (fun _ => h1 (by omega)) (fun _ => pk_eq a 2 (fun _ => h1 (by omega)) (fun _ => h0 (by omega)) hx) hx) hx
theorem sr_x_lck {a : Nat} {x : Int32} (ha : a ≤ 5) (hx : x = nI a) (post : Int32 → Prop) (h1 : 4 ≤ a → post 1) (h0 : ¬ 4 ≤ a → post 0) : wpX_isLocking post x :=
  pk_eq a 4 (fun _ => h1 (by omega)) (fun _ => pk_eq a 5 (fun _ => h1 (by omega)) (fun _ => h0 (by omega)) hx) hx
theorem sr_x_t65 {K O L B va ho dn tT tS : Nat → Int32} {f0 : Int32} {i j a b : Nat} (hi : i < 12) (hj : j < 12) (ha : a ≤ 5) (hb : b ≤ 5) (ea : K (nI i).toNatClampNeg = nI a) (eb : K (nI j).toNatClampNeg = nI b) (post : Int32 → Prop) (h1 : 4 ≤ a ∧ 4 ≤ b → post 1) (h0 : ¬ (4 ≤ a ∧ 4 ≤ b) → post 0) :
    wX_touch_65 post (nI i) (nI j) f0 K O L B va ho dn tT tS :=
  ⟨pk_in i 12 hi, sr_x_lck ha ea _ (fun z => br_f (by decide) ⟨pk_in j 12 hj, sr_x_lck hb eb _ (fun y => br_f (by decide) (h1 ⟨z, y⟩)) (fun y => br_t rfl (h0 (by omega)))⟩) (fun z => br_t rfl (h0 (by omega)))⟩
theorem sr_x_touch {K O L B va ho dn tT tS : Nat → Int32} {f0 : Int32} {i j : Nat} (g : sr_gd K O L) (hi : i < 12) (hj : j < 12) (post : Int32 → Prop) (h1 : sr_tc K O i j = true → post 1) (h0 : sr_tc K O i j = false → post 0) :
    wpX_touch post (f0, K, O, L, B, va, ho, dn, tT, tS) (nI i) (nI j) := by
  obtain ⟨a, ha, eKa, _, _⟩ := g.2 i hi
  obtain ⟨b, hb, eKb, _, _⟩ := g.2 j hj
  have ea : K (nI i).toNatClampNeg = nI a := by rw [nI_clamp (by omega), eKa]
  have eb : K (nI j).toNatClampNeg = nI b := by rw [nI_clamp (by omega), eKb]
  have ci : (nI i).toNatClampNeg = i := nI_clamp (by omega)
  have cj : (nI j).toNatClampNeg = j := nI_clamp (by omega)
  unfold sr_tc at h1 h0
  rw [eKa, eKb, nI_clamp (n := a) (by omega), nI_clamp (n := b) (by omega)] at h1 h0
  refine ⟨pk_in i 12 hi, pk_in j 12 hj, br_c (fun z => ⟨pk_in i 12 hi, ?_⟩) (fun z => h0 (decide_eq_false (fun y => z (by rw [ci, cj]; exact y.1))))⟩
  rw [ci, cj] at z
  have t1 : (a ≤ 2 ∧ b ≤ 2 ∧ ¬ (a = 0 ∧ b = 0)) ∨ (4 ≤ a ∧ 4 ≤ b) → post 1 := fun y => h1 (decide_eq_true ⟨z, y⟩)
  have t0 : ¬ ((a ≤ 2 ∧ b ≤ 2 ∧ ¬ (a = 0 ∧ b = 0)) ∨ (4 ≤ a ∧ 4 ≤ b)) → post 0 := fun y => h0 (decide_eq_false (fun w => y w.2))
  refine sr_x_acc ha ea _ (fun ya => br_f (by decide) ⟨pk_in j 12 hj, sr_x_acc hb eb _ (fun yb => br_f (by decide) ⟨pk_in i 12 hi, pk_eq a 0 (fun a0 => ⟨pk_in j 12 hj, pk_eq b 0 (fun b0 => t0 (by omega)) (fun b0 => t1 (by omega)) eb⟩) (fun a0 => t1 (by omega)) ea⟩) (fun yb => br_t rfl (sr_x_t65 hi hj ha hb ea eb post (fun w => t1 (by omega)) (fun w => t0 (by omega))))⟩) (fun ya => br_t rfl (sr_x_t65 hi hj ha hb ea eb post (fun w => t1 (by omega)) (fun w => t0 (by omega))))
theorem sr_x_cb {K O L B va ho dn tT tS : Nat → Int32} {f0 : Int32} (g : sr_gd K O L) {p : Nat → Nat} {n j : Nat} (hn : n ≤ 12) (ok : sr_ok K O L B p n) (hT : ∀ d, d < n → tT d = nI (p d) ∧ tS d = nI (sr_sd K O B p d)) (hj : j < n) (post : Int32 → Prop) :
    ∀ (i : Nat) (x3 : Int32), i ≤ j → x3 = nI i - 1 → (sr_cb K O B p j i = true → post 1) → (sr_cb K O B p j i = false → post 0) → wX_canComeBeforeGreater_11 post (nI j) (nI (p j)) f0 K O L B va ho dn tT tS (i + 1) x3 := by
  intro i
  induction i with
  | zero =>
    intro x3 _ e h1 h0
    subst e
    exact br_t (by decide) (h0 rfl)
  | succ i ih =>
    intro x3 hi e h1 h0
    rw [nI_pred] at e
    subst e
    have ep : tT (nI i).toNatClampNeg = nI (p i) := by rw [nI_clamp (by omega), (hT i (by omega)).1]
    have es : tS (nI i).toNatClampNeg = nI (sr_sd K O B p i) := by rw [nI_clamp (by omega), (hT i (by omega)).2]
    have es2 : tS (nI j).toNatClampNeg = nI (sr_sd K O B p j) := by rw [nI_clamp (by omega), (hT j (by omega)).2]
    have hpi := (ok i (by omega)).1
    have hpj := (ok j hj).1
    have ii : vp_in (nI i) 12 := pk_in i 12 (by omega)
    unfold sr_cb at h1 h0
    refine br_f (nI_pos (by omega)) ⟨ii, pk_eq (p i) (p j) (fun z => ?_) (fun z => ⟨ii, pk_in j 12 (by omega), ?_⟩) ep⟩
    · rw [if_pos z] at h0
      exact h0 rfl
    · rw [if_neg z] at h1 h0
      rw [es, es2]
      refine sr_x_touch g (sr_sd_lt g ok (by omega)) (sr_sd_lt g ok hj) _ (fun y => ?_) (fun y => ?_)
      · rw [if_pos y] at h0
        exact br_f (by decide) (h0 rfl)
      · have y' : ¬ sr_tc K O (sr_sd K O B p i) (sr_sd K O B p j) = true := by rw [y]; decide
        rw [if_neg y'] at h1 h0
        refine br_t rfl ⟨ii, pk_le (p i) (p j) (fun w => ?_) (fun w => ?_) ep⟩
        · rw [if_neg (by omega)] at h1 h0
          exact nm_r (sr_m1 _) (ih _ (by omega) rfl h1 h0)
        · rw [if_pos w] at h1
          exact h1 rfl
theorem sr_x_fs2 {K O L B va ho dn tT tS : Nat → Int32} (g : sr_gd K O L) {p : Nat → Nat} {n : Nat} (hn : n ≤ 12) (ok : sr_ok K O L B p n) (hT : ∀ d, d < n → tT d = nI (p d) ∧ tS d = nI (sr_sd K O B p d)) (post : Int32 → Prop) (h1 : sr_fs K O B p n = true → post 1) (h0 : sr_fs K O B p n = false → post 0) :
    ∀ (r j : Nat), j + r = n → sr_fs K O B p j = true → wX_isFirstOfItsClass_2 post (nI n) K O L B va ho dn tT tS (r + 1) (nI j) := by
  intro r
  induction r with
  | zero =>
    intro j hj hf
    have z : j = n := by omega
    subst z
    exact br_t (Int32.le_refl _) (h1 hf)
  | succ r ih =>
    intro j hj hf
    refine br_f (nI_ge (by omega) (by omega)) ⟨pk_in j 12 (by omega), nm_r (e' := nI (p j)) (by rw [nI_clamp (by omega), (hT j (by omega)).1]) (nm_e ⟨j + 1, sr_x_cb g hn ok hT (by omega) _ j _ (Nat.le_refl _) rfl (fun c => ?_) (fun c => ?_)⟩)⟩
    · exact br_f (by decide) (h0 (sr_fs_f c n (by omega)))
    · exact br_t rfl (nm_r (nI_1 j) (ih (j + 1) (by omega) (sr_fs_t c hf)))
theorem sr_x_fs {K O L B va ho dn tT tS : Nat → Int32} (g : sr_gd K O L) {p : Nat → Nat} {n : Nat} (hn : n ≤ 12) (ok : sr_ok K O L B p n) (hX : sr_XI K O B p n va ho dn tT tS) (post : Int32 → Prop) (h1 : sr_fs K O B p n = true → post 1) (h0 : sr_fs K O B p n = false → post 0) :
    wpX_isFirstOfItsClass post (nI n, K, O, L, B, va, ho, dn, tT, tS) :=
  ⟨n + 1, sr_x_fs2 g hn ok hX.2 post h1 h0 n 0 (by omega) rfl⟩
theorem sr_y_t40 {K O L B va ac ho tu st : Nat → Int32} {f0 z0 : Int32} {i j a b : Nat} (hi : i < 12) (hj : j < 12) (ha : a ≤ 5) (hb : b ≤ 5) (post : Int32 → Prop) (h1 : O i = O j ∧ (¬ z0 = 0 ∨ (4 ≤ a ∧ 4 ≤ b)) → post 1) (h0 : ¬ (O i = O j ∧ (¬ z0 = 0 ∨ (4 ≤ a ∧ 4 ≤ b))) → post 0) :
    wY_touch_40 post (nI i) (nI j) (nI a) (nI b) z0 f0 L K O B tu st va ac ho := by
  have ci : (nI i).toNatClampNeg = i := nI_clamp (by omega)
  have cj : (nI j).toNatClampNeg = j := nI_clamp (by omega)
  refine ⟨pk_in i 12 hi, pk_in j 12 hj, ?_⟩
  rw [ci, cj]
  refine br_c (fun z => br_c (fun y => pk_lt a 4 (fun w => h0 ?_) (fun w => pk_lt b 4 (fun w2 => h0 ?_) (fun w2 => h1 ⟨z, Or.inr ⟨w, w2⟩⟩))) (fun y => h1 ⟨z, Or.inl y⟩)) (fun z => h0 (fun y => z y.1))
  · intro q
    rcases q.2 with q | q
    · exact q y
    · omega
  · intro q
    rcases q.2 with q | q
    · exact q y
    · omega
theorem sr_y_touch {K O L B va ac ho tu st : Nat → Int32} {f0 : Int32} {i j : Nat} (g : sr_gd K O L) (hi : i < 12) (hj : j < 12) (post : Int32 → Prop) (h1 : sr_tc K O i j = true → post 1) (h0 : sr_tc K O i j = false → post 0) :
    wpY_touch post (f0, L, K, O, B, tu, st, va, ac, ho) (nI i) (nI j) := by
  obtain ⟨a, ha, eKa, _, _⟩ := g.2 i hi
  obtain ⟨b, hb, eKb, _, _⟩ := g.2 j hj
  have ea : K (nI i).toNatClampNeg = nI a := by rw [nI_clamp (by omega), eKa]
  have eb : K (nI j).toNatClampNeg = nI b := by rw [nI_clamp (by omega), eKb]
  unfold sr_tc at h1 h0
  rw [eKa, eKb, nI_clamp (n := a) (by omega), nI_clamp (n := b) (by omega)] at h1 h0
  have t0 : ¬ (a ≤ 2 ∧ b ≤ 2 ∧ ¬ (a = 0 ∧ b = 0)) → wY_touch_39 post (nI i) (nI j) (nI a) (nI b) f0 L K O B tu st va ac ho := by
    intro w
    refine sr_y_t40 hi hj ha hb post (fun y => h1 (decide_eq_true ⟨y.1, ?_⟩)) (fun y => h0 (decide_eq_false (fun q => y ⟨q.1, ?_⟩)))
    · rcases y.2 with q | q
      · exact absurd rfl q
      · exact Or.inr q
    · rcases q.2 with q | q
      · exact absurd q w
      · exact Or.inr q
  have t1 : (a ≤ 2 ∧ b ≤ 2 ∧ ¬ (a = 0 ∧ b = 0)) → wY_touch_35 post (nI i) (nI j) (nI a) (nI b) f0 L K O B tu st va ac ho := by
    intro w
    refine sr_y_t40 hi hj ha hb post (fun y => h1 (decide_eq_true ⟨y.1, Or.inl w⟩)) (fun y => h0 (decide_eq_false (fun q => y ⟨q.1, Or.inl (by decide)⟩)))
  refine ⟨pk_in i 12 hi, nm_r ea ⟨pk_in j 12 hj, nm_r eb (pk_lt 2 a (fun y => t0 (by omega)) (fun y => pk_lt 2 b (fun w => t0 (by omega)) (fun w => pk_eq a 0 (fun a0 => pk_eq b 0 (fun b0 => t0 (by omega)) (fun b0 => t1 (by omega))) (fun a0 => t1 (by omega)))))⟩⟩
theorem sr_y_69 {K O L B va ac ho tu st : Nat → Int32} {f0 z0 : Int32} {i j : Nat} {p : Nat → Nat} {b : Bool} (hi : i < 12) (hj : j < 12) (ei : tu i = nI (p i)) (ej : tu j = nI (p j)) (hpi : p i < 3) (hpj : p j < 3) (post : Int32 → Prop) (J4 : Int32 → Int32 → Prop) (J19 : Int32 → Int32 → Int32 → Prop)
    (H : J19 (sr_b (b && !(decide (¬ z0 = 0) && decide (p j < p i)))) z0 (nI i - 1)) : wY_settled_69 post J4 J19 (sr_b b) (nI j) (nI i) z0 f0 L K O B tu st va ac ho := by
  have ti : tu (nI i).toNatClampNeg = nI (p i) := by rw [nI_clamp (by omega), ei]
  have tj : tu (nI j).toNatClampNeg = nI (p j) := by rw [nI_clamp (by omega), ej]
  cases b with
  | false => exact br_t rfl (nm_r (sr_m1 _) H)
  | true =>
    refine br_f (by decide) (br_c (fun z => ?_) (fun z => ⟨pk_in j 12 hj, pk_in i 12 hi, pk_lt (p j) (p i) (fun y => ?_) (fun y => ?_) tj ti⟩))
    · subst z
      exact nm_r (sr_m1 _) H
    · rw [decide_eq_true z, decide_eq_true y] at H
      exact nm_r (sr_m1 _) H
    · have y' : decide (p j < p i) = false := decide_eq_false (by omega)
      rw [decide_eq_true z, y'] at H
      exact nm_r (sr_m1 _) H
theorem sr_y_s19 {K O L B va ac ho tu st : Nat → Int32} {f0 : Int32} (g : sr_gd K O L) {p : Nat → Nat} {n j : Nat} (hn : n ≤ 12) (ok : sr_ok K O L B p n) (hT : ∀ d, d < n → tu d = nI (p d)) (hS : ∀ d, d < n → st d = nI (sr_sd K O B p d)) (hj : j < n) (post : Int32 → Prop) (J4 : Int32 → Int32 → Prop) :
    ∀ (i : Nat) (b : Bool) (x4 : Int32), i ≤ j → x4 = nI i - 1 → J4 (sr_b (b && !sr_cb K O B p j i)) (nI (j + 1)) → wY_settled_19 post J4 (nI j) f0 L K O B tu st va ac ho (i + 1) (sr_b b) 1 x4 := by
  intro i
  induction i with
  | zero =>
    intro b x4 _ e H
    subst e
    have e2 : (b && !sr_cb K O B p j 0) = b := by cases b <;> rfl
    rw [e2] at H
    exact br_t (by decide) (nm_r (nI_1 j) H)
  | succ i ih =>
    intro b x4 hi e H
    rw [nI_pred] at e
    subst e
    have ei := hT i (by omega)
    have ej := hT j hj
    have ep : tu (nI i).toNatClampNeg = nI (p i) := by rw [nI_clamp (by omega), ei]
    have ep2 : tu (nI j).toNatClampNeg = nI (p j) := by rw [nI_clamp (by omega), ej]
    have es : st (nI i).toNatClampNeg = nI (sr_sd K O B p i) := by rw [nI_clamp (by omega), hS i (by omega)]
    have es2 : st (nI j).toNatClampNeg = nI (sr_sd K O B p j) := by rw [nI_clamp (by omega), hS j (by omega)]
    have hpi := (ok i (by omega)).1
    have hpj := (ok j hj).1
    have ii : vp_in (nI i) 12 := pk_in i 12 (by omega)
    have jj : vp_in (nI j) 12 := pk_in j 12 (by omega)
    have fin : ∀ y4 : Int32, J4 (sr_b b) (nI (j + 1)) → wY_settled_19 post J4 (nI j) f0 L K O B tu st va ac ho (i + 1) (sr_b b) 0 y4 := by
      intro y4 h
      exact br_c (fun _ => nm_r (nI_1 j) h) (fun _ => br_t rfl (nm_r (nI_1 j) h))
    have e0 : ∀ q, (b && !(decide (¬ (0 : Int32) = 0) && q)) = b := by intro q; cases b <;> rfl
    unfold sr_cb at H
    refine br_f (nI_pos (by omega)) (br_f (by decide) ⟨ii, jj, pk_eq (p i) (p j) (fun z => ?_) (fun z => ⟨ii, jj, ?_⟩) ep ep2⟩)
    · rw [if_pos z] at H
      have e2 : (b && !false) = b := by cases b <;> rfl
      rw [e2] at H
      refine sr_y_69 (p := p) (by omega) (by omega) ei ej hpi hpj post J4 _ ?_
      rw [e0]
      exact fin _ H
    · rw [if_neg z] at H
      rw [es, es2]
      refine sr_y_touch g (sr_sd_lt g ok (by omega)) (sr_sd_lt g ok hj) _ (fun y => ?_) (fun y => ?_)
      · rw [if_pos y] at H
        have e2 : (b && !false) = b := by cases b <;> rfl
        rw [e2] at H
        refine br_f (by decide) (sr_y_69 (p := p) (by omega) (by omega) ei ej hpi hpj post J4 _ ?_)
        rw [e0]
        exact fin _ H
      · have y' : ¬ sr_tc K O (sr_sd K O B p i) (sr_sd K O B p j) = true := by rw [y]; decide
        rw [if_neg y'] at H
        refine br_t rfl (sr_y_69 (p := p) (by omega) (by omega) ei ej hpi hpj post J4 _ (ih _ _ (by omega) rfl ?_))
        by_cases w : p j < p i
        · rw [if_pos w] at H
          rw [decide_eq_true w]
          have e2 : (b && !(decide (¬ (1 : Int32) = 0) && true) && !sr_cb K O B p j i) = (b && !true) := by
            cases b
            · rfl
            · show (false && _) = false
              rfl
          rw [e2]
          exact H
        · rw [if_neg w] at H
          rw [decide_eq_false w]
          have e2 : (b && !(decide (¬ (1 : Int32) = 0) && false)) = b := by cases b <;> rfl
          rw [e2]
          exact H
theorem sr_y_s4 {K O L B va ac ho tu st : Nat → Int32} (g : sr_gd K O L) {p : Nat → Nat} {n : Nat} (hn : n ≤ 12) (ok : sr_ok K O L B p n) (hT : ∀ d, d < n → tu d = nI (p d)) (hS : ∀ d, d < n → st d = nI (sr_sd K O B p d)) (post : Int32 → Prop) (H : post (sr_b (sr_fs K O B p n))) :
    ∀ (r j : Nat), j + r = n → wY_settled_4 post (nI n) L K O B tu st va ac ho (r + 1) (sr_b (sr_fs K O B p j)) (nI j) := by
  intro r
  induction r with
  | zero =>
    intro j hj
    have z : j = n := by omega
    subst z
    exact br_t (Int32.le_refl _) ⟨sr_b_n _, H⟩
  | succ r ih =>
    intro j hj
    exact br_f (nI_ge (by omega) (by omega)) (nm_e ⟨j + 1, sr_y_s19 g hn ok hT hS (by omega) _ _ j _ _ (Nat.le_refl _) rfl (ih (j + 1) (by omega))⟩)
theorem sr_y_settled {K O L B va ac ho tu st : Nat → Int32} (g : sr_gd K O L) {p : Nat → Nat} {n : Nat} (hn : n ≤ 12) (ok : sr_ok K O L B p n) (hY : sr_YI K O B p n tu st va ac ho) (post : Int32 → Prop) (H : post (sr_b (sr_fs K O B p n))) :
    wpY_settled post (nI n, L, K, O, B, tu, st, va, ac, ho) :=
  ⟨n + 1, sr_y_s4 g hn ok hY.1 hY.2.1 post H n 0 (by omega)⟩
end
section
/-! the component's loops over all ends -/
def sr_vl (K O B : Nat → Int32) (x : Nat) (s : (Nat → Nat) × Nat) : Int32 := (sr_run K O B s.1 s.2).1 x
def sr_sk (K O L B : Nat → Int32) (s : (Nat → Nat) × Nat) : Bool :=
  decide ((sr_run K O B s.1 s.2).2.1 0 < (L 0).toNatClampNeg ∨ (sr_run K O B s.1 s.2).2.1 1 < (L 1).toNatClampNeg ∨ (sr_run K O B s.1 s.2).2.1 2 < (L 2).toNatClampNeg)
def sr_eb (K O B : Nat → Int32) (x y : Nat) (a b : Int32) (s : (Nat → Nat) × Nat) : Bool := decide (sr_vl K O B x s = a ∧ sr_vl K O B y s = b)
def sr_cc (f : (Nat → Nat) × Nat → Bool) : List ((Nat → Nat) × Nat) → Nat
  | [] => 0
  | s :: l => (if f s = true then 1 else 0) + sr_cc f l
def sr_an (f : (Nat → Nat) × Nat → Bool) : List ((Nat → Nat) × Nat) → Bool
  | [] => false
  | s :: l => f s || sr_an f l
def sr_ex (w : Bool) (b v : Int32) : Int32 := if w = true then (if v ≤ b then b else v) else (if b ≤ v then b else v)
def sr_fo (w : Bool) (f : (Nat → Nat) × Nat → Int32) : Int32 → List ((Nat → Nat) × Nat) → Int32
  | b, [] => b
  | b, s :: l => sr_fo w f (sr_ex w b (f s)) l
theorem sr_x_vn {K O L B va ho dn tT tS : Nat → Int32} {s : (Nat → Nat) × Nat} {x : Nat} (hn : s.2 ≤ 12) (hx : x < 6) (hX : sr_XI K O B s.1 s.2 va ho dn tT tS) (post : Int32 → Prop) (H : post (sr_vl K O B x s)) : wpX_valueNow post (nI s.2, K, O, L, B, va, ho, dn, tT, tS) (nI x) := by
  have e : nI s.2 * 6 + nI x = nI (s.2 * 6 + x) := sr_ix s.2 6 x
  have e2 : va (nI s.2 * 6 + nI x).toNatClampNeg = sr_vl K O B x s := by rw [pk_cl _ e]; exact (hX.1 s.2 (Nat.le_refl _)).1 x hx
  refine ⟨pk_in _ _ (by omega) e, ?_⟩
  rw [e2]
  exact H
theorem sr_x_stuck2 {K O L B va ho dn tT tS : Nat → Int32} {s : (Nat → Nat) × Nat} (g : sr_gd K O L) (hn : s.2 ≤ 12) (hX : sr_XI K O B s.1 s.2 va ho dn tT tS) (ok : sr_ok K O L B s.1 s.2) (post : Int32 → Prop) (h1 : (∃ t, t < 3 ∧ (sr_run K O B s.1 s.2).2.1 t < (L t).toNatClampNeg) → post 1) (h0 : (∀ t, t < 3 → ¬ (sr_run K O B s.1 s.2).2.1 t < (L t).toNatClampNeg) → post 0) :
    ∀ r t : Nat, t + r = 3 → (∀ j, j < t → ¬ (sr_run K O B s.1 s.2).2.1 j < (L j).toNatClampNeg) → wX_isStuck_2 post (nI s.2) K O L B va ho dn tT tS (r + 1) (nI t) := by
  intro r
  induction r with
  | zero =>
    intro t ht hj
    exact br_t (nI_le (a := 3) (by omega) (by omega)) (h0 (fun j hj' => hj j (by omega)))
  | succ r ih =>
    intro t ht hj
    obtain ⟨m, hm, eL⟩ := g.1 t (by omega)
    have eL' : (L t).toNatClampNeg = m := by rw [eL]; exact nI_clamp (by omega)
    have hle := sr_at_le ok t
    have e : nI s.2 * 3 + nI t = nI (s.2 * 3 + t) := sr_ix s.2 3 t
    have e2 : dn (nI s.2 * 3 + nI t).toNatClampNeg = nI ((sr_run K O B s.1 s.2).2.1 t) := by rw [pk_cl _ e]; exact (hX.1 s.2 (Nat.le_refl _)).2.2 t (by omega)
    have e3 : L (nI t).toNatClampNeg = nI m := by rw [nI_clamp (by omega), eL]
    refine br_f (nI_ge (b := 3) (by omega) (by decide)) ⟨pk_in _ _ (by omega) e, pk_in t 3 (by omega), pk_le m ((sr_run K O B s.1 s.2).2.1 t) (fun z => nm_r (nI_1 t) (ih (t + 1) (by omega) ?_)) (fun z => h1 ⟨t, by omega, by omega⟩) e3 e2⟩
    intro j hj'
    by_cases y : j = t
    · subst y; omega
    · exact hj j (by omega)
theorem sr_x_stuck {K O L B va ho dn tT tS : Nat → Int32} {s : (Nat → Nat) × Nat} (g : sr_gd K O L) (hn : s.2 ≤ 12) (hX : sr_XI K O B s.1 s.2 va ho dn tT tS) (ok : sr_ok K O L B s.1 s.2) (post : Int32 → Prop) (h1 : sr_sk K O L B s = true → post 1) (h0 : sr_sk K O L B s = false → post 0) : wpX_isStuck post (nI s.2, K, O, L, B, va, ho, dn, tT, tS) := by
  refine ⟨4, sr_x_stuck2 g hn hX ok post (fun z => h1 (decide_eq_true ?_)) (fun z => h0 (decide_eq_false ?_)) 3 0 (by omega) (fun j hj => absurd hj (Nat.not_lt_zero j))⟩
  · obtain ⟨t, ht, z⟩ := z
    rcases (by omega : t = 0 ∨ t = 1 ∨ t = 2) with y | y | y <;> subst y
    · exact Or.inl z
    · exact Or.inr (Or.inl z)
    · exact Or.inr (Or.inr z)
  · intro y
    rcases y with y | y | y
    · exact z 0 (by omega) y
    · exact z 1 (by omega) y
    · exact z 2 (by omega) y
theorem sr_x_sch6 {K O L B : Nat → Int32} (g : sr_gd K O L) (post : Int32 → SX → Prop) : ∀ (l : List ((Nat → Nat) × Nat)) (s : (Nat → Nat) × Nat) (e : Nat) (va ho dn tT tS : Nat → Int32), sr_Ch K O L B s l → s.2 ≤ 12 → sr_ok K O L B s.1 s.2 → sr_XI K O B s.1 s.2 va ho dn tT tS → e + l.length + 1 < 1000000 →
    (∀ f va' ho' dn' tT' tS', post (nI (e + l.length + 1)) (f, K, O, L, B, va', ho', dn', tT', tS')) → wX_schedules_6 post (l.length + 1) (nI e) (nI s.2) K O L B va ho dn tT tS := by
  intro l
  induction l with
  | nil =>
    intro s e va ho dn tT tS hC hn ok hX hl H
    have hC0 : sr_nx K O L B s.1 s.2 = none := hC
    exact nm_r (nI_1 e) (br_f (nI_ge (b := 1000000) (by simp only [List.length_nil, List.length_cons] at hl; omega) (by decide)) (sr_x_next g hn ok hX _ (fun _ f1 => br_t rfl (H _ _ _ _ _ _)) (fun s2 z => nomatch (hC0.symm.trans z))))
  | cons s' l ih =>
    intro s e va ho dn tT tS hC hn ok hX hl H
    obtain ⟨ok', hn'⟩ := sr_nx_ok s.2 s' hn ok hC.1
    have hl' : (e + 1) + l.length + 1 < 1000000 := by simp only [List.length_cons] at hl; omega
    have H' : ∀ f va' ho' dn' tT' tS', post (nI (e + 1 + l.length + 1)) (f, K, O, L, B, va', ho', dn', tT', tS') := by
      have q : e + (l.length + 1) + 1 = e + 1 + l.length + 1 := by omega
      rw [List.length_cons, q] at H
      exact H
    exact nm_r (nI_1 e) (br_f (nI_ge (b := 1000000) (by simp only [List.length_nil, List.length_cons] at hl; omega) (by decide)) (sr_x_next g hn ok hX _ (fun z => nomatch (hC.1.symm.trans z)) (fun s2 z va' ho' dn' tT' tS' hX' => by cases Option.some.inj (hC.1.symm.trans z); exact br_f (by decide) (ih s' (e + 1) va' ho' dn' tT' tS' hC.2 hn' ok' hX' hl' H'))))
theorem sr_x_cls8 {K O L B : Nat → Int32} (g : sr_gd K O L) (post : Int32 → SX → Prop) : ∀ (l : List ((Nat → Nat) × Nat)) (s : (Nat → Nat) × Nat) (c e : Nat) (va ho dn tT tS : Nat → Int32), sr_Ch K O L B s l → s.2 ≤ 12 → sr_ok K O L B s.1 s.2 → sr_XI K O B s.1 s.2 va ho dn tT tS → e + l.length + 1 < 1000000 →
    (∀ f va' ho' dn' tT' tS', post (nI (c + sr_cc (fun q => sr_fs K O B q.1 q.2) (s :: l))) (f, K, O, L, B, va', ho', dn', tT', tS')) → wX_classes_8 post (l.length + 1) (nI c) (nI e) (nI s.2) K O L B va ho dn tT tS := by
  intro l
  induction l with
  | nil =>
    intro s c e va ho dn tT tS hC hn ok hX hl H
    have hC0 : sr_nx K O L B s.1 s.2 = none := hC
    have key : ∀ k : Nat, (∀ f va' ho' dn' tT' tS', post (nI k) (f, K, O, L, B, va', ho', dn', tT', tS')) → wX_classes_18 post (wX_classes_8 post 0) (nI k) (nI e) (nI s.2) K O L B va ho dn tT tS := by
      intro k h
      exact nm_r (nI_1 e) (br_f (nI_ge (b := 1000000) (by simp only [List.length_nil, List.length_cons] at hl; omega) (by decide)) (sr_x_next g hn ok hX _ (fun _ f1 => br_t rfl (h _ _ _ _ _ _)) (fun s2 z => nomatch (hC0.symm.trans z))))
    refine sr_x_fs g hn ok hX _ (fun y => br_f (by decide) (nm_r (nI_1 c) (key (c + 1) ?_))) (fun y => br_t rfl (key c ?_))
    · have q : c + sr_cc (fun q => sr_fs K O B q.1 q.2) [s] = c + 1 := by
        show c + ((if sr_fs K O B s.1 s.2 = true then 1 else 0) + 0) = _
        rw [if_pos y]
      rw [q] at H
      exact H
    · have q : c + sr_cc (fun q => sr_fs K O B q.1 q.2) [s] = c := by
        show c + ((if sr_fs K O B s.1 s.2 = true then 1 else 0) + 0) = _
        rw [if_neg (by rw [y]; decide)]
        rfl
      rw [q] at H
      exact H
  | cons s' l ih =>
    intro s c e va ho dn tT tS hC hn ok hX hl H
    obtain ⟨ok', hn'⟩ := sr_nx_ok s.2 s' hn ok hC.1
    have hl' : (e + 1) + l.length + 1 < 1000000 := by simp only [List.length_cons] at hl; omega
    have key : ∀ k : Nat, (∀ f va' ho' dn' tT' tS', post (nI (k + sr_cc (fun q => sr_fs K O B q.1 q.2) (s' :: l))) (f, K, O, L, B, va', ho', dn', tT', tS')) → wX_classes_18 post (wX_classes_8 post (l.length + 1)) (nI k) (nI e) (nI s.2) K O L B va ho dn tT tS := by
      intro k h
      exact nm_r (nI_1 e) (br_f (nI_ge (b := 1000000) (by simp only [List.length_nil, List.length_cons] at hl; omega) (by decide)) (sr_x_next g hn ok hX _ (fun z => nomatch (hC.1.symm.trans z)) (fun s2 z va' ho' dn' tT' tS' hX' => by cases Option.some.inj (hC.1.symm.trans z); exact br_f (by decide) (ih s' k (e + 1) va' ho' dn' tT' tS' hC.2 hn' ok' hX' hl' h))))
    refine sr_x_fs g hn ok hX _ (fun y => br_f (by decide) (nm_r (nI_1 c) (key (c + 1) ?_))) (fun y => br_t rfl (key c ?_))
    · have q : c + sr_cc (fun q => sr_fs K O B q.1 q.2) (s :: s' :: l) = c + 1 + sr_cc (fun q => sr_fs K O B q.1 q.2) (s' :: l) := by
        show c + ((if sr_fs K O B s.1 s.2 = true then 1 else 0) + _) = _
        rw [if_pos y, Nat.add_assoc]
      rw [q] at H
      exact H
    · have q : c + sr_cc (fun q => sr_fs K O B q.1 q.2) (s :: s' :: l) = c + sr_cc (fun q => sr_fs K O B q.1 q.2) (s' :: l) := by
        show c + ((if sr_fs K O B s.1 s.2 = true then 1 else 0) + _) = _
        rw [if_neg (by rw [y]; decide), Nat.zero_add]
      rw [q] at H
      exact H
theorem sr_x_stk6 {K O L B : Nat → Int32} (g : sr_gd K O L) (post : Int32 → SX → Prop) : ∀ (l : List ((Nat → Nat) × Nat)) (s : (Nat → Nat) × Nat) (e : Nat) (va ho dn tT tS : Nat → Int32), sr_Ch K O L B s l → s.2 ≤ 12 → sr_ok K O L B s.1 s.2 → sr_XI K O B s.1 s.2 va ho dn tT tS → e + l.length + 1 < 1000000 →
    (∀ f va' ho' dn' tT' tS', post (sr_b (sr_an (sr_sk K O L B) (s :: l))) (f, K, O, L, B, va', ho', dn', tT', tS')) → wX_canStick_6 post (l.length + 1) (nI e) (nI s.2) K O L B va ho dn tT tS := by
  intro l
  induction l with
  | nil =>
    intro s e va ho dn tT tS hC hn ok hX hl H
    have hC0 : sr_nx K O L B s.1 s.2 = none := hC
    have h1 : (sr_sk K O L B) s = true → ∀ f va' ho' dn' tT' tS', post 1 (f, K, O, L, B, va', ho', dn', tT', tS') := by
      intro yy
      have q : sr_b (sr_an (sr_sk K O L B) (s :: [])) = 1 := by
        show sr_b ((sr_sk K O L B) s || _) = 1
        rw [yy]; rfl
      rw [q] at H
      exact H
    have h0 : (sr_sk K O L B) s = false → ∀ f va' ho' dn' tT' tS', post (0) (f, K, O, L, B, va', ho', dn', tT', tS') := by
      intro yy
      have q : sr_b (sr_an (sr_sk K O L B) (s :: [])) = 0 := by
        show sr_b ((sr_sk K O L B) s || _) = _
        rw [yy]; rfl
      rw [q] at H
      exact H
    exact sr_x_stuck g hn hX ok _ (fun y => br_f (by decide) (h1 y _ _ _ _ _ _)) (fun y => br_t rfl (nm_r (nI_1 e) (br_f (nI_ge (b := 1000000) (by simp only [List.length_nil, List.length_cons] at hl; omega) (by decide)) (sr_x_next g hn ok hX _ (fun _ f1 => br_t rfl (h0 y _ _ _ _ _ _)) (fun s2 z => nomatch (hC0.symm.trans z))))))
  | cons s' l ih =>
    intro s e va ho dn tT tS hC hn ok hX hl H
    obtain ⟨ok', hn'⟩ := sr_nx_ok s.2 s' hn ok hC.1
    have hl' : (e + 1) + l.length + 1 < 1000000 := by simp only [List.length_cons] at hl; omega
    have h1 : (sr_sk K O L B) s = true → ∀ f va' ho' dn' tT' tS', post 1 (f, K, O, L, B, va', ho', dn', tT', tS') := by
      intro yy
      have q : sr_b (sr_an (sr_sk K O L B) (s :: s' :: l)) = 1 := by
        show sr_b ((sr_sk K O L B) s || _) = 1
        rw [yy]; rfl
      rw [q] at H
      exact H
    have h0 : (sr_sk K O L B) s = false → ∀ f va' ho' dn' tT' tS', post (sr_b (sr_an (sr_sk K O L B) (s' :: l))) (f, K, O, L, B, va', ho', dn', tT', tS') := by
      intro yy
      have q : sr_b (sr_an (sr_sk K O L B) (s :: s' :: l)) = sr_b (sr_an (sr_sk K O L B) (s' :: l)) := by
        show sr_b ((sr_sk K O L B) s || _) = _
        rw [yy]; rfl
      rw [q] at H
      exact H
    exact sr_x_stuck g hn hX ok _ (fun y => br_f (by decide) (h1 y _ _ _ _ _ _)) (fun y => br_t rfl (nm_r (nI_1 e) (br_f (nI_ge (b := 1000000) (by simp only [List.length_nil, List.length_cons] at hl; omega) (by decide)) (sr_x_next g hn ok hX _ (fun z => nomatch (hC.1.symm.trans z)) (fun s2 z va' ho' dn' tT' tS' hX' => by cases Option.some.inj (hC.1.symm.trans z); exact br_f (by decide) (ih s' (e + 1) va' ho' dn' tT' tS' hC.2 hn' ok' hX' hl' (h0 y)))))))
theorem sr_x_ce7 {K O L B : Nat → Int32} (g : sr_gd K O L) (post : Int32 → SX → Prop) {x y : Nat} {a b : Int32} (hx : x < 3) (hy : y < 3) : ∀ (l : List ((Nat → Nat) × Nat)) (s : (Nat → Nat) × Nat) (e : Nat) (va ho dn tT tS : Nat → Int32), sr_Ch K O L B s l → s.2 ≤ 12 → sr_ok K O L B s.1 s.2 → sr_XI K O B s.1 s.2 va ho dn tT tS → e + l.length + 1 < 1000000 →
    (∀ f va' ho' dn' tT' tS', post (sr_b (sr_an (sr_eb K O B x y a b) (s :: l))) (f, K, O, L, B, va', ho', dn', tT', tS')) → wX_canEndWith_7 post (nI x) a (nI y) b (l.length + 1) (nI e) (nI s.2) K O L B va ho dn tT tS := by
  intro l
  induction l with
  | nil =>
    intro s e va ho dn tT tS hC hn ok hX hl H
    have hC0 : sr_nx K O L B s.1 s.2 = none := hC
    have h1 : (sr_eb K O B x y a b) s = true → ∀ f va' ho' dn' tT' tS', post 1 (f, K, O, L, B, va', ho', dn', tT', tS') := by
      intro yy
      have q : sr_b (sr_an (sr_eb K O B x y a b) (s :: [])) = 1 := by
        show sr_b ((sr_eb K O B x y a b) s || _) = 1
        rw [yy]; rfl
      rw [q] at H
      exact H
    have h0 : (sr_eb K O B x y a b) s = false → ∀ f va' ho' dn' tT' tS', post (0) (f, K, O, L, B, va', ho', dn', tT', tS') := by
      intro yy
      have q : sr_b (sr_an (sr_eb K O B x y a b) (s :: [])) = 0 := by
        show sr_b ((sr_eb K O B x y a b) s || _) = _
        rw [yy]; rfl
      rw [q] at H
      exact H
    have key : (sr_eb K O B x y a b) s = false → wX_canEndWith_28 post (wX_canEndWith_7 post (nI x) a (nI y) b (0)) (nI x) a (nI y) b (nI e) (nI s.2) K O L B va ho dn tT tS := by
      intro w
      exact nm_r (nI_1 e) (br_f (nI_ge (b := 1000000) (by simp only [List.length_nil, List.length_cons] at hl; omega) (by decide)) (sr_x_next g hn ok hX _ (fun _ f1 => br_t rfl (h0 w _ _ _ _ _ _)) (fun s2 z => nomatch (hC0.symm.trans z))))
    rw [wX_canEndWith_7]
    exact sr_x_vn (x := x) hn (by omega) hX _ (br_c (fun z => sr_x_vn (x := y) hn (by omega) hX _ (br_c (fun z2 => h1 (decide_eq_true ⟨z, z2⟩) _ _ _ _ _ _) (fun z2 => key (decide_eq_false (fun q => z2 q.2))))) (fun z => key (decide_eq_false (fun q => z q.1))))
  | cons s' l ih =>
    intro s e va ho dn tT tS hC hn ok hX hl H
    obtain ⟨ok', hn'⟩ := sr_nx_ok s.2 s' hn ok hC.1
    have hl' : (e + 1) + l.length + 1 < 1000000 := by simp only [List.length_cons] at hl; omega
    have h1 : (sr_eb K O B x y a b) s = true → ∀ f va' ho' dn' tT' tS', post 1 (f, K, O, L, B, va', ho', dn', tT', tS') := by
      intro yy
      have q : sr_b (sr_an (sr_eb K O B x y a b) (s :: s' :: l)) = 1 := by
        show sr_b ((sr_eb K O B x y a b) s || _) = 1
        rw [yy]; rfl
      rw [q] at H
      exact H
    have h0 : (sr_eb K O B x y a b) s = false → ∀ f va' ho' dn' tT' tS', post (sr_b (sr_an (sr_eb K O B x y a b) (s' :: l))) (f, K, O, L, B, va', ho', dn', tT', tS') := by
      intro yy
      have q : sr_b (sr_an (sr_eb K O B x y a b) (s :: s' :: l)) = sr_b (sr_an (sr_eb K O B x y a b) (s' :: l)) := by
        show sr_b ((sr_eb K O B x y a b) s || _) = _
        rw [yy]; rfl
      rw [q] at H
      exact H
    have key : (sr_eb K O B x y a b) s = false → wX_canEndWith_28 post (wX_canEndWith_7 post (nI x) a (nI y) b (l.length + 1)) (nI x) a (nI y) b (nI e) (nI s.2) K O L B va ho dn tT tS := by
      intro w
      exact nm_r (nI_1 e) (br_f (nI_ge (b := 1000000) (by simp only [List.length_nil, List.length_cons] at hl; omega) (by decide)) (sr_x_next g hn ok hX _ (fun z => nomatch (hC.1.symm.trans z)) (fun s2 z va' ho' dn' tT' tS' hX' => by cases Option.some.inj (hC.1.symm.trans z); exact br_f (by decide) (ih s' (e + 1) va' ho' dn' tT' tS' hC.2 hn' ok' hX' hl' (h0 w)))))
    rw [wX_canEndWith_7]
    exact sr_x_vn (x := x) hn (by omega) hX _ (br_c (fun z => sr_x_vn (x := y) hn (by omega) hX _ (br_c (fun z2 => h1 (decide_eq_true ⟨z, z2⟩) _ _ _ _ _ _) (fun z2 => key (decide_eq_false (fun q => z2 q.2))))) (fun z => key (decide_eq_false (fun q => z q.1))))
theorem sr_x_ra21 {K O L B : Nat → Int32} (g : sr_gd K O L) (post : Int32 → SX → Prop) {x : Nat} {a : Int32} (hx : x < 3) : ∀ (l : List ((Nat → Nat) × Nat)) (s : (Nat → Nat) × Nat) (e : Nat) (va ho dn tT tS : Nat → Int32), sr_Ch K O L B s l → s.2 ≤ 12 → sr_ok K O L B s.1 s.2 → sr_XI K O B s.1 s.2 va ho dn tT tS → e + l.length + 1 < 1000000 →
    (∀ f va' ho' dn' tT' tS', post (sr_b (sr_an (fun q => !decide (sr_vl K O B x q = a)) (s :: l))) (f, K, O, L, B, va', ho', dn', tT', tS')) → wX_races_21 post (nI x) a (l.length + 1) (nI e) (nI s.2) K O L B va ho dn tT tS := by
  intro l
  induction l with
  | nil =>
    intro s e va ho dn tT tS hC hn ok hX hl H
    have hC0 : sr_nx K O L B s.1 s.2 = none := hC
    have h1 : (fun q => !decide (sr_vl K O B x q = a)) s = true → ∀ f va' ho' dn' tT' tS', post 1 (f, K, O, L, B, va', ho', dn', tT', tS') := by
      intro yy
      have q : sr_b (sr_an (fun q => !decide (sr_vl K O B x q = a)) (s :: [])) = 1 := by
        show sr_b ((fun q => !decide (sr_vl K O B x q = a)) s || _) = 1
        rw [yy]; rfl
      rw [q] at H
      exact H
    have h0 : (fun q => !decide (sr_vl K O B x q = a)) s = false → ∀ f va' ho' dn' tT' tS', post (0) (f, K, O, L, B, va', ho', dn', tT', tS') := by
      intro yy
      have q : sr_b (sr_an (fun q => !decide (sr_vl K O B x q = a)) (s :: [])) = 0 := by
        show sr_b ((fun q => !decide (sr_vl K O B x q = a)) s || _) = _
        rw [yy]; rfl
      rw [q] at H
      exact H
    rw [wX_races_21]
    refine sr_x_vn (x := x) hn (by omega) hX _ (br_c (fun z => ?_) (fun z => h1 (by show (!decide (sr_vl K O B x s = a)) = true; rw [decide_eq_false z]; rfl) _ _ _ _ _ _))
    have y : (fun q => !decide (sr_vl K O B x q = a)) s = false := by show (!decide (sr_vl K O B x s = a)) = false; rw [decide_eq_true z]; rfl
    exact nm_r (nI_1 e) (br_f (nI_ge (b := 1000000) (by simp only [List.length_nil, List.length_cons] at hl; omega) (by decide)) (sr_x_next g hn ok hX _ (fun _ f1 => br_t rfl (h0 y _ _ _ _ _ _)) (fun s2 z => nomatch (hC0.symm.trans z))))
  | cons s' l ih =>
    intro s e va ho dn tT tS hC hn ok hX hl H
    obtain ⟨ok', hn'⟩ := sr_nx_ok s.2 s' hn ok hC.1
    have hl' : (e + 1) + l.length + 1 < 1000000 := by simp only [List.length_cons] at hl; omega
    have h1 : (fun q => !decide (sr_vl K O B x q = a)) s = true → ∀ f va' ho' dn' tT' tS', post 1 (f, K, O, L, B, va', ho', dn', tT', tS') := by
      intro yy
      have q : sr_b (sr_an (fun q => !decide (sr_vl K O B x q = a)) (s :: s' :: l)) = 1 := by
        show sr_b ((fun q => !decide (sr_vl K O B x q = a)) s || _) = 1
        rw [yy]; rfl
      rw [q] at H
      exact H
    have h0 : (fun q => !decide (sr_vl K O B x q = a)) s = false → ∀ f va' ho' dn' tT' tS', post (sr_b (sr_an (fun q => !decide (sr_vl K O B x q = a)) (s' :: l))) (f, K, O, L, B, va', ho', dn', tT', tS') := by
      intro yy
      have q : sr_b (sr_an (fun q => !decide (sr_vl K O B x q = a)) (s :: s' :: l)) = sr_b (sr_an (fun q => !decide (sr_vl K O B x q = a)) (s' :: l)) := by
        show sr_b ((fun q => !decide (sr_vl K O B x q = a)) s || _) = _
        rw [yy]; rfl
      rw [q] at H
      exact H
    rw [wX_races_21]
    refine sr_x_vn (x := x) hn (by omega) hX _ (br_c (fun z => ?_) (fun z => h1 (by show (!decide (sr_vl K O B x s = a)) = true; rw [decide_eq_false z]; rfl) _ _ _ _ _ _))
    have y : (fun q => !decide (sr_vl K O B x q = a)) s = false := by show (!decide (sr_vl K O B x s = a)) = false; rw [decide_eq_true z]; rfl
    exact nm_r (nI_1 e) (br_f (nI_ge (b := 1000000) (by simp only [List.length_nil, List.length_cons] at hl; omega) (by decide)) (sr_x_next g hn ok hX _ (fun z => nomatch (hC.1.symm.trans z)) (fun s2 z va' ho' dn' tT' tS' hX' => by cases Option.some.inj (hC.1.symm.trans z); exact br_f (by decide) (ih s' (e + 1) va' ho' dn' tT' tS' hC.2 hn' ok' hX' hl' (h0 y)))))
theorem sr_x_ex13 {K O L B : Nat → Int32} (g : sr_gd K O L) (post : Int32 → SX → Prop) {x : Nat} {w : Bool} (hx : x < 6) : ∀ (l : List ((Nat → Nat) × Nat)) (s : (Nat → Nat) × Nat) (m : Int32) (e : Nat) (va ho dn tT tS : Nat → Int32), sr_Ch K O L B s l → s.2 ≤ 12 → sr_ok K O L B s.1 s.2 → sr_XI K O B s.1 s.2 va ho dn tT tS → e + l.length + 1 < 1000000 →
    (∀ f va' ho' dn' tT' tS', post (sr_fo w (sr_vl K O B x) m (s :: l)) (f, K, O, L, B, va', ho', dn', tT', tS')) → wX_extremeOfCell_13 post (nI x) (sr_b w) (l.length + 1) (nI e) m (nI s.2) K O L B va ho dn tT tS := by
  intro l
  induction l with
  | nil =>
    intro s m e va ho dn tT tS hC hn ok hX hl H
    have hC0 : sr_nx K O L B s.1 s.2 = none := hC
    have key : ∀ k : Int32, (∀ f va' ho' dn' tT' tS', post (sr_fo w (sr_vl K O B x) (k) ([])) (f, K, O, L, B, va', ho', dn', tT', tS')) → wX_extremeOfCell_45 post (wX_extremeOfCell_13 post (nI x) (sr_b w) (0)) (nI x) (sr_b w) (nI e) k (nI s.2) K O L B va ho dn tT tS := by
      intro k h
      exact nm_r (nI_1 e) (br_f (nI_ge (b := 1000000) (by simp only [List.length_nil, List.length_cons] at hl; omega) (by decide)) (sr_x_next g hn ok hX _ (fun _ f1 => br_t rfl (h _ _ _ _ _ _)) (fun s2 z => nomatch (hC0.symm.trans z))))
    have H' : ∀ k, sr_ex w m (sr_vl K O B x s) = k → ∀ f va' ho' dn' tT' tS', post (sr_fo w (sr_vl K O B x) (k) ([])) (f, K, O, L, B, va', ho', dn', tT', tS') := by
      intro k hk
      subst hk
      exact H
    rw [wX_extremeOfCell_13]
    refine sr_x_vn hn hx hX _ ?_
    cases w with
    | false => exact br_t rfl (br_c (fun z => key m (H' m (if_pos z))) (fun z => key _ (H' _ (if_neg z))))
    | true => exact br_f (by decide) (br_c (fun z => key m (H' m (if_pos z))) (fun z => key _ (H' _ (if_neg z))))
  | cons s' l ih =>
    intro s m e va ho dn tT tS hC hn ok hX hl H
    obtain ⟨ok', hn'⟩ := sr_nx_ok s.2 s' hn ok hC.1
    have hl' : (e + 1) + l.length + 1 < 1000000 := by simp only [List.length_cons] at hl; omega
    have key : ∀ k : Int32, (∀ f va' ho' dn' tT' tS', post (sr_fo w (sr_vl K O B x) (k) (s' :: l)) (f, K, O, L, B, va', ho', dn', tT', tS')) → wX_extremeOfCell_45 post (wX_extremeOfCell_13 post (nI x) (sr_b w) (l.length + 1)) (nI x) (sr_b w) (nI e) k (nI s.2) K O L B va ho dn tT tS := by
      intro k h
      exact nm_r (nI_1 e) (br_f (nI_ge (b := 1000000) (by simp only [List.length_nil, List.length_cons] at hl; omega) (by decide)) (sr_x_next g hn ok hX _ (fun z => nomatch (hC.1.symm.trans z)) (fun s2 z va' ho' dn' tT' tS' hX' => by cases Option.some.inj (hC.1.symm.trans z); exact br_f (by decide) (ih s' k (e + 1) va' ho' dn' tT' tS' hC.2 hn' ok' hX' hl' h))))
    have H' : ∀ k, sr_ex w m (sr_vl K O B x s) = k → ∀ f va' ho' dn' tT' tS', post (sr_fo w (sr_vl K O B x) (k) (s' :: l)) (f, K, O, L, B, va', ho', dn', tT', tS') := by
      intro k hk
      subst hk
      exact H
    rw [wX_extremeOfCell_13]
    refine sr_x_vn hn hx hX _ ?_
    cases w with
    | false => exact br_t rfl (br_c (fun z => key m (H' m (if_pos z))) (fun z => key _ (H' _ (if_neg z))))
    | true => exact br_f (by decide) (br_c (fun z => key m (H' m (if_pos z))) (fun z => key _ (H' _ (if_neg z))))
end
section
/-! the reference's loops over all ends -/
theorem sr_y_sch8 {K O L B : Nat → Int32} (g : sr_gd K O L) (post : Int32 → SY → Prop) : ∀ (l : List ((Nat → Nat) × Nat)) (s : (Nat → Nat) × Nat) (e : Nat) (tu st va ac ho : Nat → Int32), sr_Ch K O L B s l → s.2 ≤ 12 → sr_ok K O L B s.1 s.2 → sr_YI K O B s.1 s.2 tu st va ac ho → e + l.length < 34650 →
    (∀ f tu' st' va' ac' ho', post (nI (e + l.length + 1)) (f, L, K, O, B, tu', st', va', ac', ho')) → wY_schedules_8 post (l.length + 2) (nI e) 1 (nI s.2) L K O B tu st va ac ho := by
  intro l
  induction l with
  | nil =>
    intro s e tu st va ac ho hC hn ok hY hl H
    have hC0 : sr_nx K O L B s.1 s.2 = none := hC
    have he : ¬ (34650 : Int32) ≤ nI e := nI_ge (b := 34650) (by omega) (by decide)
    exact br_f (by decide) (br_f he (nm_r (nI_1 e) (sr_y_next g hn ok hY.1 _ (fun _ st2 va2 ac2 ho2 => br_t rfl (H _ _ _ _ _ _)) (fun s2 z => nomatch (hC0.symm.trans z)))))
  | cons s' l ih =>
    intro s e tu st va ac ho hC hn ok hY hl H
    obtain ⟨ok', hn'⟩ := sr_nx_ok s.2 s' hn ok hC.1
    have he : ¬ (34650 : Int32) ≤ nI e := nI_ge (b := 34650) (by omega) (by decide)
    have hl' : (e + 1) + l.length < 34650 := by simp only [List.length_cons] at hl; omega
    have H' : ∀ f tu' st' va' ac' ho', post (nI (e + 1 + l.length + 1)) (f, L, K, O, B, tu', st', va', ac', ho') := by
      have q : e + (l.length + 1) + 1 = e + 1 + l.length + 1 := by omega
      rw [List.length_cons, q] at H
      exact H
    exact br_f (by decide) (br_f he (nm_r (nI_1 e) (sr_y_next g hn ok hY.1 _ (fun z => nomatch (hC.1.symm.trans z)) (fun s2 z tu2 st2 va2 ac2 ho2 hY2 => by cases Option.some.inj (hC.1.symm.trans z); exact ih s' (e + 1) tu2 st2 va2 ac2 ho2 hC.2 hn' ok' hY2 hl' H'))))
theorem sr_y_cls10 {K O L B : Nat → Int32} (g : sr_gd K O L) (post : Int32 → SY → Prop) : ∀ (l : List ((Nat → Nat) × Nat)) (s : (Nat → Nat) × Nat) (c e : Nat) (tu st va ac ho : Nat → Int32), sr_Ch K O L B s l → s.2 ≤ 12 → sr_ok K O L B s.1 s.2 → sr_YI K O B s.1 s.2 tu st va ac ho → e + l.length < 34650 →
    (∀ f tu' st' va' ac' ho', post (nI (c + sr_cc (fun q => sr_fs K O B q.1 q.2) (s :: l))) (f, L, K, O, B, tu', st', va', ac', ho')) → wY_classes_10 post (l.length + 2) (nI c) 1 (nI e) (nI s.2) L K O B tu st va ac ho := by
  intro l
  induction l with
  | nil =>
    intro s c e tu st va ac ho hC hn ok hY hl H
    have hC0 : sr_nx K O L B s.1 s.2 = none := hC
    have he : ¬ (34650 : Int32) ≤ nI e := nI_ge (b := 34650) (by omega) (by decide)
    have key : ∀ k : Nat, (∀ f tu' st' va' ac' ho', post (nI k) (f, L, K, O, B, tu', st', va', ac', ho')) → wY_classes_34 post (wY_classes_10 post (1)) (nI e) (nI k) (nI s.2) L K O B tu st va ac ho := by
      intro k h
      exact sr_y_next g hn ok hY.1 _ (fun _ st2 va2 ac2 ho2 => nm_r (nI_1 e) (br_c (fun _ => h _ _ _ _ _ _) (fun _ => br_t rfl (h _ _ _ _ _ _)))) (fun s2 z => nomatch (hC0.symm.trans z))
    refine br_f he (br_f (by decide) (sr_y_settled g hn ok hY _ ?_))
    cases y : sr_fs K O B s.1 s.2 with
    | true =>
      have q : c + sr_cc (fun q => sr_fs K O B q.1 q.2) [s] = c + 1 := by
        show c + ((if sr_fs K O B s.1 s.2 = true then 1 else 0) + 0) = _
        rw [if_pos y]
      rw [q] at H
      refine br_f (by decide) ?_
      rw [nI_1]
      exact key (c + 1) H
    | false =>
      have q : c + sr_cc (fun q => sr_fs K O B q.1 q.2) [s] = c := by
        show c + ((if sr_fs K O B s.1 s.2 = true then 1 else 0) + 0) = _
        rw [if_neg (by rw [y]; decide)]
        rfl
      rw [q] at H
      exact br_t rfl (key c H)
  | cons s' l ih =>
    intro s c e tu st va ac ho hC hn ok hY hl H
    obtain ⟨ok', hn'⟩ := sr_nx_ok s.2 s' hn ok hC.1
    have he : ¬ (34650 : Int32) ≤ nI e := nI_ge (b := 34650) (by omega) (by decide)
    have hl' : (e + 1) + l.length < 34650 := by simp only [List.length_cons] at hl; omega
    have key : ∀ k : Nat, (∀ f tu' st' va' ac' ho', post (nI (k + sr_cc (fun q => sr_fs K O B q.1 q.2) (s' :: l))) (f, L, K, O, B, tu', st', va', ac', ho')) → wY_classes_34 post (wY_classes_10 post (l.length + 2)) (nI e) (nI k) (nI s.2) L K O B tu st va ac ho := by
      intro k h
      exact sr_y_next g hn ok hY.1 _ (fun z => nomatch (hC.1.symm.trans z)) (fun s2 z tu2 st2 va2 ac2 ho2 hY2 => by cases Option.some.inj (hC.1.symm.trans z); exact nm_r (nI_1 e) (ih s' k (e + 1) tu2 st2 va2 ac2 ho2 hC.2 hn' ok' hY2 hl' h))
    refine br_f he (br_f (by decide) (sr_y_settled g hn ok hY _ ?_))
    cases y : sr_fs K O B s.1 s.2 with
    | true =>
      have q : c + sr_cc (fun q => sr_fs K O B q.1 q.2) (s :: s' :: l) = c + 1 + sr_cc (fun q => sr_fs K O B q.1 q.2) (s' :: l) := by
        show c + ((if sr_fs K O B s.1 s.2 = true then 1 else 0) + _) = _
        rw [if_pos y, Nat.add_assoc]
      rw [q] at H
      refine br_f (by decide) ?_
      rw [nI_1]
      exact key (c + 1) H
    | false =>
      have q : c + sr_cc (fun q => sr_fs K O B q.1 q.2) (s :: s' :: l) = c + sr_cc (fun q => sr_fs K O B q.1 q.2) (s' :: l) := by
        show c + ((if sr_fs K O B s.1 s.2 = true then 1 else 0) + _) = _
        rw [if_neg (by rw [y]; decide), Nat.zero_add]
      rw [q] at H
      exact br_t rfl (key c H)
theorem sr_y_stk10 {K O L B : Nat → Int32} (g : sr_gd K O L) (post : Int32 → SY → Prop) : ∀ (l : List ((Nat → Nat) × Nat)) (s : (Nat → Nat) × Nat) (c : Bool) (e : Nat) (tu st va ac ho : Nat → Int32), sr_Ch K O L B s l → s.2 ≤ 12 → sr_ok K O L B s.1 s.2 → sr_YI K O B s.1 s.2 tu st va ac ho → e + l.length < 34650 →
    (∀ f tu' st' va' ac' ho', post (sr_b (c || sr_an (sr_sk K O L B) (s :: l))) (f, L, K, O, B, tu', st', va', ac', ho')) → wY_canStick_10 post (l.length + 2) (sr_b c) 1 (nI e) (nI s.2) L K O B tu st va ac ho := by
  intro l
  induction l with
  | nil =>
    intro s c e tu st va ac ho hC hn ok hY hl H
    have hC0 : sr_nx K O L B s.1 s.2 = none := hC
    have he : ¬ (34650 : Int32) ≤ nI e := nI_ge (b := 34650) (by omega) (by decide)
    have key : ∀ (k : Bool) (st3 va3 ac3 ho3 : Nat → Int32), sr_YI K O B s.1 s.2 tu st3 va3 ac3 ho3 → (∀ f tu' st' va' ac' ho', post (sr_b k) (f, L, K, O, B, tu', st', va', ac', ho')) → wY_canStick_82 post (wY_canStick_10 post (1)) (nI e) (sr_b k) (nI s.2) L K O B tu st3 va3 ac3 ho3 := by
      intro k st3 va3 ac3 ho3 hY3 h
      exact sr_y_next g hn ok hY3.1 _ (fun _ st2 va2 ac2 ho2 => nm_r (nI_1 e) (br_c (fun _ => ⟨sr_b_n _, h _ _ _ _ _ _⟩) (fun _ => br_t rfl ⟨sr_b_n _, h _ _ _ _ _ _⟩))) (fun s2 z => nomatch (hC0.symm.trans z))
    have H1 : (c || (sr_sk K O L B) s) = true → ∀ f tu' st' va' ac' ho', post (sr_b true) (f, L, K, O, B, tu', st', va', ac', ho') := by
      intro yy
      have q : (c || sr_an (sr_sk K O L B) (s :: [])) = true := by
        show (c || ((sr_sk K O L B) s || _)) = _
        rw [← Bool.or_assoc, yy]
        try rfl
      rw [q] at H
      exact H
    have H0 : (c || (sr_sk K O L B) s) = false → ∀ f tu' st' va' ac' ho', post (sr_b false) (f, L, K, O, B, tu', st', va', ac', ho') := by
      intro yy
      have q : (c || sr_an (sr_sk K O L B) (s :: [])) = false := by
        show (c || ((sr_sk K O L B) s || _)) = _
        rw [← Bool.or_assoc, yy]
        try rfl
      rw [q] at H
      exact H
    refine br_f he (br_f (by decide) (sr_y_replay g hn ok hY.1 _ (fun st3 va3 ac3 ho3 hY3 => ?_)))
    obtain ⟨m0, hm0, eL0⟩ := g.1 0 (by omega)
    obtain ⟨m1, hm1, eL1⟩ := g.1 1 (by omega)
    obtain ⟨m2, hm2, eL2⟩ := g.1 2 (by omega)
    have l0 : (L 0).toNatClampNeg = m0 := by rw [eL0]; exact nI_clamp (by omega)
    have l1 : (L 1).toNatClampNeg = m1 := by rw [eL1]; exact nI_clamp (by omega)
    have l2 : (L 2).toNatClampNeg = m2 := by rw [eL2]; exact nI_clamp (by omega)
    have a0 := hY3.2.2.2.1 0 (by omega)
    have a1 := hY3.2.2.2.1 1 (by omega)
    have a2 := hY3.2.2.2.1 2 (by omega)
    have b0 := sr_at_le ok 0
    have b1 := sr_at_le ok 1
    have b2 := sr_at_le ok 2
    have k1 : (sr_sk K O L B) s = true → _ := fun y => key true st3 va3 ac3 ho3 hY3 (H1 (by rw [y]; exact Bool.or_true _))
    cases c with
    | true => exact br_f (by decide) (key true st3 va3 ac3 ho3 hY3 (H1 rfl))
    | false =>
      refine br_t rfl (pk_lt ((sr_run K O B s.1 s.2).2.1 0) m0 (fun z => k1 (decide_eq_true (Or.inl (by omega)))) (fun z => pk_lt ((sr_run K O B s.1 s.2).2.1 1) m1 (fun z1 => k1 (decide_eq_true (Or.inr (Or.inl (by omega))))) (fun z1 => pk_le m2 ((sr_run K O B s.1 s.2).2.1 2) (fun z2 => ?_) (fun z2 => k1 (decide_eq_true (Or.inr (Or.inr (by omega))))) eL2 a2) a1 eL1) a0 eL0)
      have y : (sr_sk K O L B) s = false := decide_eq_false (by omega)
      exact key false st3 va3 ac3 ho3 hY3 (H0 (by rw [y]; rfl))
  | cons s' l ih =>
    intro s c e tu st va ac ho hC hn ok hY hl H
    obtain ⟨ok', hn'⟩ := sr_nx_ok s.2 s' hn ok hC.1
    have he : ¬ (34650 : Int32) ≤ nI e := nI_ge (b := 34650) (by omega) (by decide)
    have hl' : (e + 1) + l.length < 34650 := by simp only [List.length_cons] at hl; omega
    have key : ∀ (k : Bool) (st3 va3 ac3 ho3 : Nat → Int32), sr_YI K O B s.1 s.2 tu st3 va3 ac3 ho3 → (∀ f tu' st' va' ac' ho', post (sr_b (k || sr_an (sr_sk K O L B) (s' :: l))) (f, L, K, O, B, tu', st', va', ac', ho')) → wY_canStick_82 post (wY_canStick_10 post (l.length + 2)) (nI e) (sr_b k) (nI s.2) L K O B tu st3 va3 ac3 ho3 := by
      intro k st3 va3 ac3 ho3 hY3 h
      exact sr_y_next g hn ok hY3.1 _ (fun z => nomatch (hC.1.symm.trans z)) (fun s2 z tu2 st2 va2 ac2 ho2 hY2 => by cases Option.some.inj (hC.1.symm.trans z); exact nm_r (nI_1 e) (ih s' k (e + 1) tu2 st2 va2 ac2 ho2 hC.2 hn' ok' hY2 hl' h))
    have H1 : (c || (sr_sk K O L B) s) = true → ∀ f tu' st' va' ac' ho', post (sr_b (true || sr_an (sr_sk K O L B) (s' :: l))) (f, L, K, O, B, tu', st', va', ac', ho') := by
      intro yy
      have q : (c || sr_an (sr_sk K O L B) (s :: s' :: l)) = (true || sr_an (sr_sk K O L B) (s' :: l)) := by
        show (c || ((sr_sk K O L B) s || _)) = _
        rw [← Bool.or_assoc, yy]
        try rfl
      rw [q] at H
      exact H
    have H0 : (c || (sr_sk K O L B) s) = false → ∀ f tu' st' va' ac' ho', post (sr_b (false || sr_an (sr_sk K O L B) (s' :: l))) (f, L, K, O, B, tu', st', va', ac', ho') := by
      intro yy
      have q : (c || sr_an (sr_sk K O L B) (s :: s' :: l)) = (false || sr_an (sr_sk K O L B) (s' :: l)) := by
        show (c || ((sr_sk K O L B) s || _)) = _
        rw [← Bool.or_assoc, yy]
        try rfl
      rw [q] at H
      exact H
    refine br_f he (br_f (by decide) (sr_y_replay g hn ok hY.1 _ (fun st3 va3 ac3 ho3 hY3 => ?_)))
    obtain ⟨m0, hm0, eL0⟩ := g.1 0 (by omega)
    obtain ⟨m1, hm1, eL1⟩ := g.1 1 (by omega)
    obtain ⟨m2, hm2, eL2⟩ := g.1 2 (by omega)
    have l0 : (L 0).toNatClampNeg = m0 := by rw [eL0]; exact nI_clamp (by omega)
    have l1 : (L 1).toNatClampNeg = m1 := by rw [eL1]; exact nI_clamp (by omega)
    have l2 : (L 2).toNatClampNeg = m2 := by rw [eL2]; exact nI_clamp (by omega)
    have a0 := hY3.2.2.2.1 0 (by omega)
    have a1 := hY3.2.2.2.1 1 (by omega)
    have a2 := hY3.2.2.2.1 2 (by omega)
    have b0 := sr_at_le ok 0
    have b1 := sr_at_le ok 1
    have b2 := sr_at_le ok 2
    have k1 : (sr_sk K O L B) s = true → _ := fun y => key true st3 va3 ac3 ho3 hY3 (H1 (by rw [y]; exact Bool.or_true _))
    cases c with
    | true => exact br_f (by decide) (key true st3 va3 ac3 ho3 hY3 (H1 rfl))
    | false =>
      refine br_t rfl (pk_lt ((sr_run K O B s.1 s.2).2.1 0) m0 (fun z => k1 (decide_eq_true (Or.inl (by omega)))) (fun z => pk_lt ((sr_run K O B s.1 s.2).2.1 1) m1 (fun z1 => k1 (decide_eq_true (Or.inr (Or.inl (by omega))))) (fun z1 => pk_le m2 ((sr_run K O B s.1 s.2).2.1 2) (fun z2 => ?_) (fun z2 => k1 (decide_eq_true (Or.inr (Or.inr (by omega))))) eL2 a2) a1 eL1) a0 eL0)
      have y : (sr_sk K O L B) s = false := decide_eq_false (by omega)
      exact key false st3 va3 ac3 ho3 hY3 (H0 (by rw [y]; rfl))
theorem sr_y_ce33 {K O L B : Nat → Int32} (g : sr_gd K O L) (post : Int32 → SY → Prop) {x y : Nat} {a b : Int32} (hx : x < 3) (hy : y < 3) : ∀ (l : List ((Nat → Nat) × Nat)) (s : (Nat → Nat) × Nat) (c : Bool) (e : Nat) (tu st va ac ho : Nat → Int32), sr_Ch K O L B s l → s.2 ≤ 12 → sr_ok K O L B s.1 s.2 → sr_YI K O B s.1 s.2 tu st va ac ho → e + l.length < 34650 →
    (∀ f tu' st' va' ac' ho', post (sr_b (c || sr_an (sr_eb K O B x y a b) (s :: l))) (f, L, K, O, B, tu', st', va', ac', ho')) → wY_canEndBoth_33 post (nI x) a (nI y) b (l.length + 2) (sr_b c) 1 (nI e) (nI s.2) L K O B tu st va ac ho := by
  intro l
  induction l with
  | nil =>
    intro s c e tu st va ac ho hC hn ok hY hl H
    have hC0 : sr_nx K O L B s.1 s.2 = none := hC
    have he : ¬ (34650 : Int32) ≤ nI e := nI_ge (b := 34650) (by omega) (by decide)
    have key : ∀ (k : Bool) (st3 va3 ac3 ho3 : Nat → Int32), sr_YI K O B s.1 s.2 tu st3 va3 ac3 ho3 → (∀ f tu' st' va' ac' ho', post (sr_b k) (f, L, K, O, B, tu', st', va', ac', ho')) → wY_canEndBoth_84 post (wY_canEndBoth_33 post (nI x) a (nI y) b (1)) (nI x) a (nI y) b (nI e) (sr_b k) (nI s.2) L K O B tu st3 va3 ac3 ho3 := by
      intro k st3 va3 ac3 ho3 hY3 h
      exact sr_y_next g hn ok hY3.1 _ (fun _ st2 va2 ac2 ho2 => nm_r (nI_1 e) (br_c (fun _ => ⟨sr_b_n _, h _ _ _ _ _ _⟩) (fun _ => br_t rfl ⟨sr_b_n _, h _ _ _ _ _ _⟩))) (fun s2 z => nomatch (hC0.symm.trans z))
    have H1 : (c || (sr_eb K O B x y a b) s) = true → ∀ f tu' st' va' ac' ho', post (sr_b true) (f, L, K, O, B, tu', st', va', ac', ho') := by
      intro yy
      have q : (c || sr_an (sr_eb K O B x y a b) (s :: [])) = true := by
        show (c || ((sr_eb K O B x y a b) s || _)) = _
        rw [← Bool.or_assoc, yy]
        try rfl
      rw [q] at H
      exact H
    have H0 : (c || (sr_eb K O B x y a b) s) = false → ∀ f tu' st' va' ac' ho', post (sr_b false) (f, L, K, O, B, tu', st', va', ac', ho') := by
      intro yy
      have q : (c || sr_an (sr_eb K O B x y a b) (s :: [])) = false := by
        show (c || ((sr_eb K O B x y a b) s || _)) = _
        rw [← Bool.or_assoc, yy]
        try rfl
      rw [q] at H
      exact H
    refine br_f he (br_f (by decide) (sr_y_replay g hn ok hY.1 _ (fun st3 va3 ac3 ho3 hY3 => ?_)))
    have ex : va3 (nI x).toNatClampNeg = sr_vl K O B x s := by rw [nI_clamp (by omega)]; exact hY3.2.2.1 x (by omega)
    have ey : va3 (nI y).toNatClampNeg = sr_vl K O B y s := by rw [nI_clamp (by omega)]; exact hY3.2.2.1 y (by omega)
    cases c with
    | true => exact br_f (by decide) (key true st3 va3 ac3 ho3 hY3 (H1 rfl))
    | false =>
      have k0 : (sr_eb K O B x y a b) s = false → _ := fun w => key false st3 va3 ac3 ho3 hY3 (H0 (by rw [w]; rfl))
      refine br_t rfl ⟨pk_in x 6 (by omega), br_c (fun z => ⟨pk_in y 6 (by omega), br_c (fun z2 => ?_) (fun z2 => ?_)⟩) (fun z => ?_)⟩
      · have w : (sr_eb K O B x y a b) s = true := decide_eq_true ⟨ex.symm.trans z, ey.symm.trans z2⟩
        exact key true st3 va3 ac3 ho3 hY3 (H1 (by rw [w]; rfl))
      · exact k0 (decide_eq_false (fun q => z2 (ey.trans q.2)))
      · exact k0 (decide_eq_false (fun q => z (ex.trans q.1)))
  | cons s' l ih =>
    intro s c e tu st va ac ho hC hn ok hY hl H
    obtain ⟨ok', hn'⟩ := sr_nx_ok s.2 s' hn ok hC.1
    have he : ¬ (34650 : Int32) ≤ nI e := nI_ge (b := 34650) (by omega) (by decide)
    have hl' : (e + 1) + l.length < 34650 := by simp only [List.length_cons] at hl; omega
    have key : ∀ (k : Bool) (st3 va3 ac3 ho3 : Nat → Int32), sr_YI K O B s.1 s.2 tu st3 va3 ac3 ho3 → (∀ f tu' st' va' ac' ho', post (sr_b (k || sr_an (sr_eb K O B x y a b) (s' :: l))) (f, L, K, O, B, tu', st', va', ac', ho')) → wY_canEndBoth_84 post (wY_canEndBoth_33 post (nI x) a (nI y) b (l.length + 2)) (nI x) a (nI y) b (nI e) (sr_b k) (nI s.2) L K O B tu st3 va3 ac3 ho3 := by
      intro k st3 va3 ac3 ho3 hY3 h
      exact sr_y_next g hn ok hY3.1 _ (fun z => nomatch (hC.1.symm.trans z)) (fun s2 z tu2 st2 va2 ac2 ho2 hY2 => by cases Option.some.inj (hC.1.symm.trans z); exact nm_r (nI_1 e) (ih s' k (e + 1) tu2 st2 va2 ac2 ho2 hC.2 hn' ok' hY2 hl' h))
    have H1 : (c || (sr_eb K O B x y a b) s) = true → ∀ f tu' st' va' ac' ho', post (sr_b (true || sr_an (sr_eb K O B x y a b) (s' :: l))) (f, L, K, O, B, tu', st', va', ac', ho') := by
      intro yy
      have q : (c || sr_an (sr_eb K O B x y a b) (s :: s' :: l)) = (true || sr_an (sr_eb K O B x y a b) (s' :: l)) := by
        show (c || ((sr_eb K O B x y a b) s || _)) = _
        rw [← Bool.or_assoc, yy]
        try rfl
      rw [q] at H
      exact H
    have H0 : (c || (sr_eb K O B x y a b) s) = false → ∀ f tu' st' va' ac' ho', post (sr_b (false || sr_an (sr_eb K O B x y a b) (s' :: l))) (f, L, K, O, B, tu', st', va', ac', ho') := by
      intro yy
      have q : (c || sr_an (sr_eb K O B x y a b) (s :: s' :: l)) = (false || sr_an (sr_eb K O B x y a b) (s' :: l)) := by
        show (c || ((sr_eb K O B x y a b) s || _)) = _
        rw [← Bool.or_assoc, yy]
        try rfl
      rw [q] at H
      exact H
    refine br_f he (br_f (by decide) (sr_y_replay g hn ok hY.1 _ (fun st3 va3 ac3 ho3 hY3 => ?_)))
    have ex : va3 (nI x).toNatClampNeg = sr_vl K O B x s := by rw [nI_clamp (by omega)]; exact hY3.2.2.1 x (by omega)
    have ey : va3 (nI y).toNatClampNeg = sr_vl K O B y s := by rw [nI_clamp (by omega)]; exact hY3.2.2.1 y (by omega)
    cases c with
    | true => exact br_f (by decide) (key true st3 va3 ac3 ho3 hY3 (H1 rfl))
    | false =>
      have k0 : (sr_eb K O B x y a b) s = false → _ := fun w => key false st3 va3 ac3 ho3 hY3 (H0 (by rw [w]; rfl))
      refine br_t rfl ⟨pk_in x 6 (by omega), br_c (fun z => ⟨pk_in y 6 (by omega), br_c (fun z2 => ?_) (fun z2 => ?_)⟩) (fun z => ?_)⟩
      · have w : (sr_eb K O B x y a b) s = true := decide_eq_true ⟨ex.symm.trans z, ey.symm.trans z2⟩
        exact key true st3 va3 ac3 ho3 hY3 (H1 (by rw [w]; rfl))
      · exact k0 (decide_eq_false (fun q => z2 (ey.trans q.2)))
      · exact k0 (decide_eq_false (fun q => z (ex.trans q.1)))
theorem sr_y_en25 {K O L B : Nat → Int32} (g : sr_gd K O L) (post : Int32 → SY → Prop) {x : Nat} {w : Bool} (hx : x < 6) : ∀ (l : List ((Nat → Nat) × Nat)) (s : (Nat → Nat) × Nat) (m : Int32) (e : Nat) (tu st va ac ho : Nat → Int32), sr_Ch K O L B s l → s.2 ≤ 12 → sr_ok K O L B s.1 s.2 → sr_YI K O B s.1 s.2 tu st va ac ho → e + l.length < 34650 →
    (∀ f tu' st' va' ac' ho', post (sr_fo w (sr_vl K O B x) m (s :: l)) (f, L, K, O, B, tu', st', va', ac', ho')) → wY_end_25 post (nI x) (sr_b w) (l.length + 2) m 1 (nI e) (nI s.2) L K O B tu st va ac ho := by
  intro l
  induction l with
  | nil =>
    intro s m e tu st va ac ho hC hn ok hY hl H
    have hC0 : sr_nx K O L B s.1 s.2 = none := hC
    have he : ¬ (34650 : Int32) ≤ nI e := nI_ge (b := 34650) (by omega) (by decide)
    have key : ∀ (k : Int32) (st3 va3 ac3 ho3 : Nat → Int32), sr_YI K O B s.1 s.2 tu st3 va3 ac3 ho3 → (∀ f tu' st' va' ac' ho', post (sr_fo w (sr_vl K O B x) (k) ([])) (f, L, K, O, B, tu', st', va', ac', ho')) → wY_end_84 post (wY_end_25 post (nI x) (sr_b w) (1)) (nI x) (sr_b w) (nI e) k (nI s.2) L K O B tu st3 va3 ac3 ho3 := by
      intro k st3 va3 ac3 ho3 hY3 h
      exact sr_y_next g hn ok hY3.1 _ (fun _ st2 va2 ac2 ho2 => nm_r (nI_1 e) (br_c (fun _ => h _ _ _ _ _ _) (fun _ => br_t rfl (h _ _ _ _ _ _)))) (fun s2 z => nomatch (hC0.symm.trans z))
    have H' : ∀ k, sr_ex w m (sr_vl K O B x s) = k → ∀ f tu' st' va' ac' ho', post (sr_fo w (sr_vl K O B x) (k) ([])) (f, L, K, O, B, tu', st', va', ac', ho') := by
      intro k hk
      subst hk
      exact H
    refine br_f he (br_f (by decide) (sr_y_replay g hn ok hY.1 _ (fun st3 va3 ac3 ho3 hY3 => ?_)))
    refine ⟨pk_in x 6 hx, nm_r (e' := sr_vl K O B x s) (by rw [nI_clamp (n := x) (by omega)]; exact hY3.2.2.1 x hx) ?_⟩
    cases w with
    | false => exact br_t rfl (br_c (fun z => key m st3 va3 ac3 ho3 hY3 (H' m (if_pos z))) (fun z => key _ st3 va3 ac3 ho3 hY3 (H' _ (if_neg z))))
    | true => exact br_f (by decide) (br_c (fun z => key m st3 va3 ac3 ho3 hY3 (H' m (if_pos z))) (fun z => key _ st3 va3 ac3 ho3 hY3 (H' _ (if_neg z))))
  | cons s' l ih =>
    intro s m e tu st va ac ho hC hn ok hY hl H
    obtain ⟨ok', hn'⟩ := sr_nx_ok s.2 s' hn ok hC.1
    have he : ¬ (34650 : Int32) ≤ nI e := nI_ge (b := 34650) (by omega) (by decide)
    have hl' : (e + 1) + l.length < 34650 := by simp only [List.length_cons] at hl; omega
    have key : ∀ (k : Int32) (st3 va3 ac3 ho3 : Nat → Int32), sr_YI K O B s.1 s.2 tu st3 va3 ac3 ho3 → (∀ f tu' st' va' ac' ho', post (sr_fo w (sr_vl K O B x) (k) (s' :: l)) (f, L, K, O, B, tu', st', va', ac', ho')) → wY_end_84 post (wY_end_25 post (nI x) (sr_b w) (l.length + 2)) (nI x) (sr_b w) (nI e) k (nI s.2) L K O B tu st3 va3 ac3 ho3 := by
      intro k st3 va3 ac3 ho3 hY3 h
      exact sr_y_next g hn ok hY3.1 _ (fun z => nomatch (hC.1.symm.trans z)) (fun s2 z tu2 st2 va2 ac2 ho2 hY2 => by cases Option.some.inj (hC.1.symm.trans z); exact nm_r (nI_1 e) (ih s' k (e + 1) tu2 st2 va2 ac2 ho2 hC.2 hn' ok' hY2 hl' h))
    have H' : ∀ k, sr_ex w m (sr_vl K O B x s) = k → ∀ f tu' st' va' ac' ho', post (sr_fo w (sr_vl K O B x) (k) (s' :: l)) (f, L, K, O, B, tu', st', va', ac', ho') := by
      intro k hk
      subst hk
      exact H
    refine br_f he (br_f (by decide) (sr_y_replay g hn ok hY.1 _ (fun st3 va3 ac3 ho3 hY3 => ?_)))
    refine ⟨pk_in x 6 hx, nm_r (e' := sr_vl K O B x s) (by rw [nI_clamp (n := x) (by omega)]; exact hY3.2.2.1 x hx) ?_⟩
    cases w with
    | false => exact br_t rfl (br_c (fun z => key m st3 va3 ac3 ho3 hY3 (H' m (if_pos z))) (fun z => key _ st3 va3 ac3 ho3 hY3 (H' _ (if_neg z))))
    | true => exact br_f (by decide) (br_c (fun z => key m st3 va3 ac3 ho3 hY3 (H' m (if_pos z))) (fun z => key _ st3 va3 ac3 ho3 hY3 (H' _ (if_neg z))))
end
section
/-! the methods: each side's answer by the pure picture -/
theorem sr_t2 : (2 : Int32).toInt = 2 := by decide
theorem sr_t3 : (3 : Int32).toInt = 3 := by decide
theorem sr_32 {x : Int32} (h : 3 ≤ x) : 2 < x := by
  rw [Int32.le_iff_toInt_le, sr_t3] at h
  rw [Int32.lt_iff_toInt_lt, sr_t2]
  omega
theorem sr_n2 {x : Int32} (h : 3 ≤ x) : ¬ x ≤ 2 := by
  rw [Int32.le_iff_toInt_le, sr_t3] at h
  rw [Int32.le_iff_toInt_le, sr_t2]
  omega
theorem sr_rg (x : Int32) : (x < 0 ∨ 3 ≤ x) ∨ ∃ j, j < 3 ∧ x = nI j := by
  rcases pk_ix x (n := 3) (by decide) with h | h | h
  · exact Or.inl (Or.inl h)
  · exact Or.inl (Or.inr h)
  · exact Or.inr h
theorem sr_x_thr_n {x : Int32} (h : x < 0 ∨ 3 ≤ x) (post : Int32 → Prop) (h0 : post 0) : wpX_isThread post x := br_c (fun _ => h0) (fun z => br_t (h.resolve_left z) h0)
theorem sr_x_thr_y {t : Nat} (h : t < 3) (post : Int32 → Prop) (h1 : post 1) : wpX_isThread post (nI t) := br_f (nI_pos (by omega)) (br_f (nI_ge (b := 3) h (by decide)) h1)
theorem sr_x_var_n {x : Int32} (h : x < 0 ∨ 3 ≤ x) (post : Int32 → Prop) (h0 : post 0) : wpX_isVariable post x := br_c (fun _ => h0) (fun z => br_t (h.resolve_left z) h0)
theorem sr_x_var_y {t : Nat} (h : t < 3) (post : Int32 → Prop) (h1 : post 1) : wpX_isVariable post (nI t) := br_f (nI_pos (by omega)) (br_f (nI_ge (b := 3) h (by decide)) h1)
theorem sr_y_thr_n {v : SY} {x : Int32} (h : x < 0 ∨ 3 ≤ x) (post : Int32 → Prop) (h0 : post 0) : wpY_thread post v x := br_c (fun _ => h0) (fun z => br_t (sr_32 (h.resolve_left z)) h0)
theorem sr_y_thr_y {v : SY} {t : Nat} (h : t < 3) (post : Int32 → Prop) (h1 : post 1) : wpY_thread post v (nI t) := br_f (nI_pos (by omega)) (br_f (nI_nlt (a := 2) (by omega) (by decide)) h1)
theorem sr_xm_sch {K O L B va ho dn tT tS : Nat → Int32} {f0 : Int32} (g : sr_gd K O L) {l : List ((Nat → Nat) × Nat)} (hC : sr_Ch K O L B (sr_first K O L B) l) (hl : l.length < 34650) (post : Int32 → SX → Prop) 
    (H : ∀ f va' ho' dn' tT' tS', post (nI (0 + l.length + 1)) (f, K, O, L, B, va', ho', dn', tT', tS')) : wpX_schedules post (f0, K, O, L, B, va, ho, dn, tT, tS) := by
  obtain ⟨okf, hnf⟩ := sr_first_ok K O L B
  unfold wpX_schedules
  dsimp only
  exact sr_x_first g _ (fun va' ho' dn' tT' tS' hX => ⟨_, sr_x_sch6 g post l (sr_first K O L B) 0 va' ho' dn' tT' tS' hC hnf okf hX (by omega) H⟩)
theorem sr_ym_sch {K O L B tu st va ac ho : Nat → Int32} {f0 : Int32} (g : sr_gd K O L) {l : List ((Nat → Nat) × Nat)} (hC : sr_Ch K O L B (sr_first K O L B) l) (hl : l.length < 34650) (post : Int32 → SY → Prop) 
    (H : ∀ f tu' st' va' ac' ho', post (nI (0 + l.length + 1)) (f, L, K, O, B, tu', st', va', ac', ho')) : wpY_schedules post (f0, L, K, O, B, tu, st, va, ac, ho) := by
  obtain ⟨okf, hnf⟩ := sr_first_ok K O L B
  unfold wpY_schedules
  dsimp only
  exact sr_y_first g _ (fun tu' st' va' ac' ho' hY => ⟨_, sr_y_sch8 g post l (sr_first K O L B) 0 tu' st' va' ac' ho' hC hnf okf hY (by omega) H⟩)
theorem sr_xm_cls {K O L B va ho dn tT tS : Nat → Int32} {f0 : Int32} (g : sr_gd K O L) {l : List ((Nat → Nat) × Nat)} (hC : sr_Ch K O L B (sr_first K O L B) l) (hl : l.length < 34650) (post : Int32 → SX → Prop) 
    (H : ∀ f va' ho' dn' tT' tS', post (nI (0 + sr_cc (fun q => sr_fs K O B q.1 q.2) ((sr_first K O L B) :: l))) (f, K, O, L, B, va', ho', dn', tT', tS')) : wpX_classes post (f0, K, O, L, B, va, ho, dn, tT, tS) := by
  obtain ⟨okf, hnf⟩ := sr_first_ok K O L B
  unfold wpX_classes
  dsimp only
  exact sr_x_first g _ (fun va' ho' dn' tT' tS' hX => ⟨_, sr_x_cls8 g post l (sr_first K O L B) 0 0 va' ho' dn' tT' tS' hC hnf okf hX (by omega) H⟩)
theorem sr_ym_cls {K O L B tu st va ac ho : Nat → Int32} {f0 : Int32} (g : sr_gd K O L) {l : List ((Nat → Nat) × Nat)} (hC : sr_Ch K O L B (sr_first K O L B) l) (hl : l.length < 34650) (post : Int32 → SY → Prop) 
    (H : ∀ f tu' st' va' ac' ho', post (nI (0 + sr_cc (fun q => sr_fs K O B q.1 q.2) ((sr_first K O L B) :: l))) (f, L, K, O, B, tu', st', va', ac', ho')) : wpY_classes post (f0, L, K, O, B, tu, st, va, ac, ho) := by
  obtain ⟨okf, hnf⟩ := sr_first_ok K O L B
  unfold wpY_classes
  dsimp only
  exact sr_y_first g _ (fun tu' st' va' ac' ho' hY => ⟨_, sr_y_cls10 g post l (sr_first K O L B) 0 0 tu' st' va' ac' ho' hC hnf okf hY (by omega) H⟩)
theorem sr_xm_stk {K O L B va ho dn tT tS : Nat → Int32} {f0 : Int32} (g : sr_gd K O L) {l : List ((Nat → Nat) × Nat)} (hC : sr_Ch K O L B (sr_first K O L B) l) (hl : l.length < 34650) (post : Int32 → SX → Prop) 
    (H : ∀ f va' ho' dn' tT' tS', post (sr_b (sr_an (sr_sk K O L B) ((sr_first K O L B) :: l))) (f, K, O, L, B, va', ho', dn', tT', tS')) : wpX_canStick post (f0, K, O, L, B, va, ho, dn, tT, tS) := by
  obtain ⟨okf, hnf⟩ := sr_first_ok K O L B
  unfold wpX_canStick
  dsimp only
  exact sr_x_first g _ (fun va' ho' dn' tT' tS' hX => ⟨_, sr_x_stk6 g post l (sr_first K O L B) 0 va' ho' dn' tT' tS' hC hnf okf hX (by omega) H⟩)
theorem sr_ym_stk {K O L B tu st va ac ho : Nat → Int32} {f0 : Int32} (g : sr_gd K O L) {l : List ((Nat → Nat) × Nat)} (hC : sr_Ch K O L B (sr_first K O L B) l) (hl : l.length < 34650) (post : Int32 → SY → Prop) 
    (H : ∀ f tu' st' va' ac' ho', post (sr_b (sr_an (sr_sk K O L B) ((sr_first K O L B) :: l))) (f, L, K, O, B, tu', st', va', ac', ho')) : wpY_canStick post (f0, L, K, O, B, tu, st, va, ac, ho) := by
  obtain ⟨okf, hnf⟩ := sr_first_ok K O L B
  unfold wpY_canStick
  dsimp only
  exact sr_y_first g _ (fun tu' st' va' ac' ho' hY => ⟨_, sr_y_stk10 g post l (sr_first K O L B) false 0 tu' st' va' ac' ho' hC hnf okf hY (by omega) H⟩)
theorem sr_xm_ce {K O L B va ho dn tT tS : Nat → Int32} {f0 : Int32} (g : sr_gd K O L) {l : List ((Nat → Nat) × Nat)} (hC : sr_Ch K O L B (sr_first K O L B) l) (hl : l.length < 34650) (post : Int32 → SX → Prop) {x y : Nat} {a b : Int32} (hx : x < 3) (hy : y < 3)
    (H : ∀ f va' ho' dn' tT' tS', post (sr_b (sr_an (sr_eb K O B x y a b) ((sr_first K O L B) :: l))) (f, K, O, L, B, va', ho', dn', tT', tS')) : wpX_canEndWith post (f0, K, O, L, B, va, ho, dn, tT, tS) (nI x) a (nI y) b := by
  obtain ⟨okf, hnf⟩ := sr_first_ok K O L B
  unfold wpX_canEndWith
  dsimp only
  exact sr_x_first g _ (fun va' ho' dn' tT' tS' hX => ⟨_, sr_x_ce7 g post hx hy l (sr_first K O L B) 0 va' ho' dn' tT' tS' hC hnf okf hX (by omega) H⟩)
theorem sr_ym_ce {K O L B tu st va ac ho : Nat → Int32} {f0 : Int32} (g : sr_gd K O L) {l : List ((Nat → Nat) × Nat)} (hC : sr_Ch K O L B (sr_first K O L B) l) (hl : l.length < 34650) (post : Int32 → SY → Prop) {x y : Nat} {a b : Int32} (hx : x < 3) (hy : y < 3)
    (H : ∀ f tu' st' va' ac' ho', post (sr_b (sr_an (sr_eb K O B x y a b) ((sr_first K O L B) :: l))) (f, L, K, O, B, tu', st', va', ac', ho')) : wpY_canEndBoth post (f0, L, K, O, B, tu, st, va, ac, ho) (nI x) a (nI y) b := by
  obtain ⟨okf, hnf⟩ := sr_first_ok K O L B
  unfold wpY_canEndBoth
  dsimp only
  refine br_f (nI_pos (by omega)) (br_f (nI_nlt (a := 2) (by omega) (by decide)) (br_f (nI_pos (by omega)) (br_t (nI_le (b := 2) (by omega) (by decide)) ?_)))
  exact sr_y_first g _ (fun tu' st' va' ac' ho' hY => ⟨_, sr_y_ce33 g post hx hy l (sr_first K O L B) false 0 tu' st' va' ac' ho' hC hnf okf hY (by omega) H⟩)
theorem sr_xm_ex {K O L B va ho dn tT tS : Nat → Int32} {f0 : Int32} (g : sr_gd K O L) {l : List ((Nat → Nat) × Nat)} (hC : sr_Ch K O L B (sr_first K O L B) l) (hl : l.length < 34650) (post : Int32 → SX → Prop) {x : Nat} {w : Bool} (hx : x < 6)
    (H : ∀ f va' ho' dn' tT' tS', post (sr_fo w (sr_vl K O B x) (sr_vl K O B x (sr_first K O L B)) ((sr_first K O L B) :: l)) (f, K, O, L, B, va', ho', dn', tT', tS')) : wpX_extremeOfCell post (f0, K, O, L, B, va, ho, dn, tT, tS) (nI x) (sr_b w) := by
  obtain ⟨okf, hnf⟩ := sr_first_ok K O L B
  unfold wpX_extremeOfCell
  dsimp only
  exact sr_x_first g _ (fun va' ho' dn' tT' tS' hX => sr_x_vn hnf hx hX _ ⟨_, sr_x_ex13 g post hx l (sr_first K O L B) _ 0 va' ho' dn' tT' tS' hC hnf okf hX (by omega) H⟩)
theorem sr_ym_en {K O L B tu st va ac ho : Nat → Int32} {f0 : Int32} (g : sr_gd K O L) {l : List ((Nat → Nat) × Nat)} (hC : sr_Ch K O L B (sr_first K O L B) l) (hl : l.length < 34650) (post : Int32 → SY → Prop) {x : Nat} {w : Bool} (hx : x < 6)
    (H : ∀ f tu' st' va' ac' ho', post (sr_fo w (sr_vl K O B x) (sr_vl K O B x (sr_first K O L B)) ((sr_first K O L B) :: l)) (f, L, K, O, B, tu', st', va', ac', ho')) : wpY_end post (f0, L, K, O, B, tu, st, va, ac, ho) (nI x) (sr_b w) := by
  obtain ⟨okf, hnf⟩ := sr_first_ok K O L B
  unfold wpY_end
  dsimp only
  exact sr_y_first g _ (fun tu' st' va' ac' ho' hY => sr_y_replay g hnf okf hY.1 _ (fun st2 va2 ac2 ho2 hY2 => ⟨pk_in x 6 hx, nm_r (e' := sr_vl K O B x (sr_first K O L B)) (by rw [nI_clamp (n := x) (by omega)]; exact hY2.2.2.1 x hx) ⟨_, sr_y_en25 g post hx l (sr_first K O L B) _ 0 tu' st2 va2 ac2 ho2 hC hnf okf hY2 (by omega) H⟩⟩))
theorem sr_xm_ra {K O L B va ho dn tT tS : Nat → Int32} {f0 : Int32} (g : sr_gd K O L) {l : List ((Nat → Nat) × Nat)} (hC : sr_Ch K O L B (sr_first K O L B) l) (hl : l.length < 34650) (post : Int32 → SX → Prop) {x : Nat} (hx : x < 3)
    (H : ∀ f va' ho' dn' tT' tS', post (sr_b (sr_an (fun q => !decide (sr_vl K O B x q = sr_vl K O B x (sr_first K O L B))) ((sr_first K O L B) :: l))) (f, K, O, L, B, va', ho', dn', tT', tS')) : wpX_races post (f0, K, O, L, B, va, ho, dn, tT, tS) (nI x) := by
  obtain ⟨okf, hnf⟩ := sr_first_ok K O L B
  unfold wpX_races
  dsimp only
  refine sr_x_var_y hx _ (br_f (by decide) ?_)
  exact sr_x_first g _ (fun va' ho' dn' tT' tS' hX => sr_x_vn (x := x) hnf (by omega) hX _ ⟨_, sr_x_ra21 g post hx l (sr_first K O L B) 0 va' ho' dn' tT' tS' hC hnf okf hX (by omega) H⟩)
theorem sr_fo_0 {f : (Nat → Nat) × Nat → Int32} : ∀ (l : List ((Nat → Nat) × Nat)) (b : Int32), sr_fo false f b l ≤ b := by
  intro l
  induction l with
  | nil => intro b; exact Int32.le_refl _
  | cons s l ih =>
    intro b
    show sr_fo false f (sr_ex false b (f s)) l ≤ b
    by_cases z : b ≤ f s
    · have e : sr_ex false b (f s) = b := if_pos z
      rw [e]; exact ih b
    · have e : sr_ex false b (f s) = f s := if_neg z
      rw [e]
      have := ih (f s)
      rw [Int32.le_iff_toInt_le] at *
      omega
theorem sr_fo_1 {f : (Nat → Nat) × Nat → Int32} : ∀ (l : List ((Nat → Nat) × Nat)) (b : Int32), b ≤ sr_fo true f b l := by
  intro l
  induction l with
  | nil => intro b; exact Int32.le_refl _
  | cons s l ih =>
    intro b
    show b ≤ sr_fo true f (sr_ex true b (f s)) l
    by_cases z : f s ≤ b
    · have e : sr_ex true b (f s) = b := if_pos z
      rw [e]; exact ih b
    · have e : sr_ex true b (f s) = f s := if_neg z
      rw [e]
      have := ih (f s)
      rw [Int32.le_iff_toInt_le] at *
      omega
theorem sr_ex_0 (b v : Int32) : sr_ex false b v ≤ b ∧ sr_ex false b v ≤ v := by
  by_cases z : b ≤ v
  · have e : sr_ex false b v = b := if_pos z
    rw [e]; exact ⟨Int32.le_refl _, z⟩
  · have e : sr_ex false b v = v := if_neg z
    rw [e]
    refine ⟨?_, Int32.le_refl _⟩
    rw [Int32.le_iff_toInt_le] at *
    omega
theorem sr_ex_1 (b v : Int32) : b ≤ sr_ex true b v ∧ v ≤ sr_ex true b v := by
  by_cases z : v ≤ b
  · have e : sr_ex true b v = b := if_pos z
    rw [e]; exact ⟨Int32.le_refl _, z⟩
  · have e : sr_ex true b v = v := if_neg z
    rw [e]
    refine ⟨?_, Int32.le_refl _⟩
    rw [Int32.le_iff_toInt_le] at *
    omega
theorem sr_fo_ne {f : (Nat → Nat) × Nat → Int32} {c : Int32} : ∀ (l : List ((Nat → Nat) × Nat)) (b1 b2 : Int32), b1 ≤ c → c ≤ b2 → sr_an (fun q => !decide (f q = c)) l = true → (sr_fo false f b1 l).toInt < (sr_fo true f b2 l).toInt := by
  intro l
  induction l with
  | nil => intro b1 b2 _ _ h; exact nomatch h
  | cons s l ih =>
    intro b1 b2 h1 h2 h
    show (sr_fo false f (sr_ex false b1 (f s)) l).toInt < (sr_fo true f (sr_ex true b2 (f s)) l).toInt
    by_cases z : f s = c
    · refine ih _ _ ?_ ?_ ?_
      · rw [z]; exact (sr_ex_0 b1 c).2
      · rw [z]; exact (sr_ex_1 b2 c).2
      · have h' : ((!decide (f s = c)) || sr_an (fun q => !decide (f q = c)) l) = true := h
        rw [decide_eq_true z] at h'
        exact h'
    · have a1 := sr_fo_0 (f := f) l (sr_ex false b1 (f s))
      have a2 := sr_fo_1 (f := f) l (sr_ex true b2 (f s))
      have a3 := sr_ex_0 b1 (f s)
      have a4 := sr_ex_1 b2 (f s)
      have a5 : (f s).toInt ≠ c.toInt := fun q => z (Int32.toInt_inj.mp q)
      simp only [Int32.le_iff_toInt_le] at *
      omega
theorem sr_fo_eq {f : (Nat → Nat) × Nat → Int32} {c : Int32} {w : Bool} : ∀ (l : List ((Nat → Nat) × Nat)), sr_an (fun q => !decide (f q = c)) l = false → sr_fo w f c l = c := by
  intro l
  induction l with
  | nil => intro _; rfl
  | cons s l ih =>
    intro h
    have h' : ((!decide (f s = c)) || sr_an (fun q => !decide (f q = c)) l) = false := h
    rw [Bool.or_eq_false_iff] at h'
    have z : f s = c := by
      have q := h'.1
      by_cases y : f s = c
      · exact y
      · rw [decide_eq_false y] at q; exact nomatch q
    show sr_fo w f (sr_ex w c (f s)) l = c
    have e : sr_ex w c (f s) = c := by
      rw [z]
      cases w
      · exact if_pos (Int32.le_refl _)
      · exact if_pos (Int32.le_refl _)
    rw [e]
    exact ih h'.2
end
section
/-! step, and what it keeps -/
def sr_VD (k : Nat) (q : Int32) : Prop := (k ≤ 2 → ∃ o, o ≤ 2 ∧ q = nI o) ∧ (4 ≤ k → ∃ o, o ≤ 1 ∧ q = nI o)
theorem sr_gd_L {K O L : Nat → Int32} {t m : Nat} (g : sr_gd K O L) (hm : m ≤ 4) : sr_gd K O (upd L t (nI m)) := by
  refine ⟨fun j hj => ?_, g.2⟩
  by_cases z : j = t
  · subst z; exact ⟨m, hm, pk_us⟩
  · rw [pk_un z]; exact g.1 j hj
theorem sr_gd_KO {K O L : Nat → Int32} {c k : Nat} {q : Int32} (g : sr_gd K O L) (hk : k ≤ 5) (hv : sr_VD k q) : sr_gd (upd K c (nI k)) (upd O c q) L := by
  refine ⟨g.1, fun j hj => ?_⟩
  by_cases z : j = c
  · subst z
    rw [pk_us, pk_us]
    exact ⟨k, hk, rfl, hv.1, hv.2⟩
  · rw [pk_un z, pk_un z]; exact g.2 j hj
theorem sr_bad {j : Nat} (hj : j < 3) : ¬ (nI j < 0 ∨ 3 ≤ nI j) := by
  intro h
  rcases h with h | h
  · exact nI_pos (by omega) h
  · exact nI_ge (b := 3) hj (by decide) h
theorem sr_x_stpn {x q : Int32} (h : x < 0 ∨ 6 ≤ x) (post : Int32 → Prop) (h0 : post 0) : wpX_isStep post x q := by
  have ne : ∀ j, j ≤ 5 → ¬ x = nI j := by
    intro j hj e
    subst e
    rcases h with h | h
    · exact nI_pos (by omega) h
    · exact nI_ge (b := 6) (by omega) (by decide) h
  exact br_f (ne 0 (by omega)) (br_f (ne 1 (by omega)) (br_f (ne 2 (by omega)) (br_t rfl (br_f (ne 4 (by omega)) (br_f (ne 5 (by omega)) (br_t rfl (br_f (ne 3 (by omega)) h0)))))))
theorem sr_x_stp {k : Nat} {q : Int32} (hk : k ≤ 5) (post : Int32 → Prop) (h1 : sr_VD k q → post 1) (h0 : ¬ sr_VD k q → post 0) : wpX_isStep post (nI k) q := by
  unfold wpX_isStep
  refine sr_x_acc hk rfl _ (fun z => br_f (by decide) ?_) (fun z => br_t rfl (sr_x_lck hk rfl _ (fun y => br_f (by decide) ?_) (fun y => br_t rfl (pk_eq k 3 (fun _ => h1 ⟨fun w => by omega, fun w => by omega⟩) (fun w => by omega)))))
  · rcases sr_rg q with h | ⟨j, hj, e⟩
    · refine sr_x_var_n h _ ⟨sr_b_n false, h0 (fun v => ?_)⟩
      obtain ⟨o, ho, e⟩ := v.1 z
      subst e
      exact sr_bad (by omega) h
    · subst e
      exact sr_x_var_y hj _ ⟨sr_b_n true, h1 ⟨fun _ => ⟨j, by omega, rfl⟩, fun w => by omega⟩⟩
  · rcases pk_ix q (n := 2) (by decide) with h | h | ⟨j, hj, e⟩
    · refine br_t h (h0 (fun v => ?_))
      obtain ⟨o, ho, e⟩ := v.2 y
      subst e
      exact nI_pos (by omega) h
    · have nv : ¬ sr_VD k q := fun v => by
        obtain ⟨o, ho, e⟩ := v.2 y
        subst e
        exact nI_ge (b := 2) (by omega) (by decide) h
      exact br_c (fun _ => h0 nv) (fun _ => br_t h (h0 nv))
    · subst e
      exact br_f (nI_pos (by omega)) (br_f (nI_ge (b := 2) hj (by decide)) (h1 ⟨fun w => by omega, fun w => ⟨j, by omega, rfl⟩⟩))
theorem sr_y_47 {K O L B tu st va ac ho : Nat → Int32} {f0 q : Int32} {t k m : Nat} (ht : t < 3) (hm : m ≤ 4) (eL : L t = nI m) (post : Int32 → SY → Prop)
    (h1 : m < 4 → post (nI m) (f0, upd L t (nI (m + 1)), upd K (4 * t + m) (nI k), upd O (4 * t + m) q, B, tu, st, va, ac, ho)) (h0 : 4 ≤ m → post (-2) (f0, L, K, O, B, tu, st, va, ac, ho)) :
    wY_step_47 post (nI t) (nI k) q f0 L K O B tu st va ac ho := by
  have e1 : L (nI t).toNatClampNeg = nI m := by rw [nI_clamp (by omega), eL]
  have e2 : 4 * nI t + L (nI t).toNatClampNeg = nI (4 * t + m) := by rw [e1]; exact sr_ix 4 t m
  have c2 : m < 4 → (4 * nI t + L (nI t).toNatClampNeg).toNatClampNeg = 4 * t + m := fun z => pk_cl _ e2
  have it : vp_in (nI t) 3 := pk_in t 3 ht
  refine ⟨it, pk_lt m 4 (fun z => ⟨it, pk_in _ 12 (by omega) e2, nm_r (e' := upd K (4 * t + m) (nI k)) (by rw [c2 z]) ⟨it, pk_in _ 12 (by omega) e2, nm_r (e' := upd O (4 * t + m) q) (by rw [c2 z]) ⟨it, it, nm_r (e' := upd L t (nI (m + 1))) (by rw [e1, nI_1, nI_clamp (n := t) (by omega)]) ⟨it, ?_⟩⟩⟩⟩) h0 e1⟩
  rw [nI_clamp (n := t) (by omega), pk_us, nI_pred]
  exact h1 z
theorem sr_y_stp {K O L B tu st va ac ho : Nat → Int32} {f0 q : Int32} {t k : Nat} (ht : t < 3) (hk : k ≤ 5) (post : Int32 → SY → Prop)
    (h1 : sr_VD k q → wY_step_47 post (nI t) (nI k) q f0 L K O B tu st va ac ho) (h0 : ¬ sr_VD k q → post (-1) (f0, L, K, O, B, tu, st, va, ac, ho)) :
    wpY_step post (f0, L, K, O, B, tu, st, va, ac, ho) (nI t) (nI k) q := by
  have s31 : (k ≤ 2 → ∃ o, o ≤ 2 ∧ q = nI o) → wY_step_31 post (nI t) (nI k) q f0 L K O B tu st va ac ho := by
    intro v
    refine pk_lt k 4 (fun y => h1 ⟨v, fun w => by omega⟩) (fun y => br_c (fun z => h1 ⟨v, fun _ => ⟨0, by omega, z⟩⟩) (fun z => br_c (fun z2 => h1 ⟨v, fun _ => ⟨1, by omega, z2⟩⟩) (fun z2 => h0 (fun w => ?_))))
    obtain ⟨o, ho, e⟩ := w.2 y
    rcases (by omega : o = 0 ∨ o = 1) with x | x <;> subst x
    · exact z e
    · exact z2 e
  unfold wpY_step
  dsimp only
  refine sr_y_thr_y ht _ (br_f (by decide) (br_f (nI_pos (by omega)) (br_f (nI_nlt (a := 5) (by omega) (by decide)) (pk_lt 2 k (fun z => s31 (fun w => by omega)) (fun z => ?_)))))
  rcases sr_rg q with h | ⟨j, hj, e⟩
  · have nv : ¬ sr_VD k q := fun v => by
      obtain ⟨o, ho, e⟩ := v.1 z
      subst e
      exact sr_bad (by omega) h
    exact br_c (fun _ => h0 nv) (fun y => br_t (sr_32 (h.resolve_left y)) (h0 nv))
  · subst e
    exact br_f (nI_pos (by omega)) (br_f (nI_nlt (a := 2) (by omega) (by decide)) (s31 (fun _ => ⟨j, by omega, rfl⟩)))
theorem sr_y_stpn {K O L B tu st va ac ho : Nat → Int32} {f0 x q : Int32} {t : Nat} (ht : t < 3) (h : x < 0 ∨ 6 ≤ x) (post : Int32 → SY → Prop)
    (h0 : post (-1) (f0, L, K, O, B, tu, st, va, ac, ho)) : wpY_step post (f0, L, K, O, B, tu, st, va, ac, ho) (nI t) x q := by
  have t5 : (5 : Int32).toInt = 5 := by decide
  have t6 : (6 : Int32).toInt = 6 := by decide
  unfold wpY_step
  dsimp only
  refine sr_y_thr_y ht _ (br_f (by decide) (br_c (fun _ => h0) (fun z => br_t ?_ h0)))
  have y := h.resolve_left z
  rw [Int32.le_iff_toInt_le, t6] at y
  rw [Int32.lt_iff_toInt_lt, t5]
  omega
theorem sr_x_stpm {K O L B va ho dn tT tS : Nat → Int32} {f0 q : Int32} {t k m : Nat} (ht : t < 3) (hk : k ≤ 5) (hm : m ≤ 4) (eL : L t = nI m) (post : Int32 → SX → Prop)
    (h2 : sr_VD k q → m < 4 → post (nI m) (f0, upd K (4 * t + m) (nI k), upd O (4 * t + m) q, upd L t (nI (m + 1)), B, va, ho, dn, tT, tS)) (h1 : sr_VD k q → 4 ≤ m → post (-2) (f0, K, O, L, B, va, ho, dn, tT, tS)) (h0 : ¬ sr_VD k q → post (-1) (f0, K, O, L, B, va, ho, dn, tT, tS)) :
    wpX_step post (f0, K, O, L, B, va, ho, dn, tT, tS) (nI t) (nI k) q := by
  have e1 : L (nI t).toNatClampNeg = nI m := by rw [nI_clamp (by omega), eL]
  have e2 : nI t * 4 + nI m = nI (4 * t + m) := by rw [Nat.mul_comm]; exact sr_ix t 4 m
  have c2 : m < 4 → (nI t * 4 + nI m).toNatClampNeg = 4 * t + m := fun z => pk_cl _ e2
  have it : vp_in (nI t) 3 := pk_in t 3 ht
  unfold wpX_step
  dsimp only
  refine sr_x_thr_y ht _ (br_f (by decide) (sr_x_stp hk _ (fun v => br_f (by decide) ⟨it, nm_r e1 (pk_lt m 4 (fun z => ⟨pk_in _ 12 (by omega) e2, nm_r (e' := upd K (4 * t + m) (nI k)) (by rw [c2 z]) ⟨pk_in _ 12 (by omega) e2, nm_r (e' := upd O (4 * t + m) q) (by rw [c2 z]) ⟨it, nm_r (e' := upd L t (nI (m + 1))) (by rw [nI_1, nI_clamp (n := t) (by omega)]) (h2 v z)⟩⟩⟩) (h1 v))⟩) (fun v => br_t rfl (h0 v))))
theorem sr_x_stpo {K O L B va ho dn tT tS : Nat → Int32} {f0 x q : Int32} {t : Nat} (ht : t < 3) (h : x < 0 ∨ 6 ≤ x) (post : Int32 → SX → Prop) (h0 : post (-1) (f0, K, O, L, B, va, ho, dn, tT, tS)) :
    wpX_step post (f0, K, O, L, B, va, ho, dn, tT, tS) (nI t) x q := by
  unfold wpX_step
  dsimp only
  exact sr_x_thr_y ht _ (br_f (by decide) (sr_x_stpn h _ (br_t rfl h0)))
end
section
/-! what is owed -/
def i_Rel (_ : Nat) (u : SX) (v : SY) : Prop := ∃ (f : Int32) (K O L B va ho dn tT tS : Nat → Int32) (f' : Int32) (tu st va' ac ho' : Nat → Int32), u = (f, K, O, L, B, va, ho, dn, tT, tS) ∧ v = (f', L, K, O, B, tu, st, va', ac, ho') ∧ sr_gd K O L
theorem sr_rel {k : Nat} {K O L B va ho dn tT tS tu st va' ac ho' : Nat → Int32} {f f' : Int32} (g : sr_gd K O L) : i_Rel k (f, K, O, L, B, va, ho, dn, tT, tS) (f', L, K, O, B, tu, st, va', ac, ho') :=
  ⟨f, K, O, L, B, va, ho, dn, tT, tS, f', tu, st, va', ac, ho', rfl, rfl, g⟩
theorem i_up {k : Nat} {u : SX} {v : SY} (h : i_Rel k u v) : i_Rel (k + 5) u v := h
theorem i_vc0 : wpX_init (fun u => wpY_init (fun v => i_Rel 0 u v)) :=
  sr_rel (k := 0) ⟨fun _ _ => ⟨0, by omega, nI_0.symm⟩, fun _ _ => ⟨0, by omega, nI_0.symm, fun _ => ⟨0, by omega, nI_0.symm⟩, fun h => by omega⟩⟩
theorem i_vc_step {k : Nat} {u : SX} {v : SY} (I : i_Rel k u v) (hk : k + 5 ≤ 2560) (v1 : Int32) (v2 : Int32) (v3 : Int32) : wpX_step (fun r u' => wpY_step (fun r' v' => r' = r ∧ i_Rel (k + 5) u' v') v v1 v2 v3) u v1 v2 v3 := by
  obtain ⟨f, K, O, L, B, va, ho, dn, tT, tS, f', tu, st, va', ac, ho', rfl, rfl, g⟩ := I
  rcases sr_rg v1 with h | ⟨t, ht, e⟩
  · unfold wpX_step
    dsimp only
    refine sr_x_thr_n h _ (br_t rfl ?_)
    unfold wpY_step
    dsimp only
    exact sr_y_thr_n h _ (br_t rfl ⟨rfl, sr_rel g⟩)
  · subst e
    rcases pk_ix v2 (n := 6) (by decide) with h | h | ⟨c, hc, e⟩
    · exact sr_x_stpo ht (Or.inl h) _ (sr_y_stpn ht (Or.inl h) _ ⟨rfl, sr_rel g⟩)
    · exact sr_x_stpo ht (Or.inr h) _ (sr_y_stpn ht (Or.inr h) _ ⟨rfl, sr_rel g⟩)
    · subst e
      obtain ⟨m, hm, eL⟩ := g.1 t ht
      refine sr_x_stpm ht (by omega) hm eL _ (fun w z => ?_) (fun w z => ?_) (fun w => ?_)
      · exact sr_y_stp ht (by omega) _ (fun _ => sr_y_47 ht hm eL _ (fun _ => ⟨rfl, sr_rel (sr_gd_L (sr_gd_KO g (by omega) w) (by omega))⟩) (fun y => by omega)) (fun y => absurd w y)
      · exact sr_y_stp ht (by omega) _ (fun _ => sr_y_47 ht hm eL _ (fun y => by omega) (fun _ => ⟨rfl, sr_rel g⟩)) (fun y => absurd w y)
      · exact sr_y_stp ht (by omega) _ (fun y => absurd y w) (fun _ => ⟨rfl, sr_rel g⟩)
theorem i_vc_drop {k : Nat} {u : SX} {v : SY} (I : i_Rel k u v) (hk : k + 5 ≤ 2560) (v1 : Int32) : wpX_drop (fun r u' => wpY_drop (fun r' v' => r' = r ∧ i_Rel (k + 5) u' v') v v1) u v1 := by
  obtain ⟨f, K, O, L, B, va, ho, dn, tT, tS, f', tu, st, va', ac, ho', rfl, rfl, g⟩ := I
  unfold wpX_drop wpY_drop
  dsimp only
  rcases sr_rg v1 with h | ⟨t, ht, e⟩
  · exact sr_x_thr_n h _ (br_t rfl (sr_y_thr_n h _ (br_t rfl ⟨rfl, sr_rel g⟩)))
  · subst e
    obtain ⟨m, hm, eL⟩ := g.1 t ht
    have e1 : L (nI t).toNatClampNeg = nI m := by rw [nI_clamp (by omega), eL]
    have it : vp_in (nI t) 3 := pk_in t 3 ht
    refine sr_x_thr_y ht _ (br_f (by decide) ⟨it, pk_eq m 0 (fun z => ?_) (fun z => ⟨it, it, nm_r (e' := upd L t (nI (m - 1))) ?_ ⟨it, ?_⟩⟩) e1⟩)
    · exact sr_y_thr_y ht _ (br_f (by decide) ⟨it, br_t (by rw [e1, z]; rfl) ⟨rfl, sr_rel g⟩⟩)
    · rw [e1, nI_clamp (n := t) (by omega)]
      exact congrArg (upd L t) (pk_sub (b := 1) (by omega))
    · refine sr_y_thr_y ht _ (br_f (by decide) ⟨it, pk_eq m 0 (fun y => absurd y z) (fun _ => ⟨it, it, nm_r (e' := upd L t (nI (m - 1))) ?_ ⟨it, rfl, sr_rel (sr_gd_L g (by omega))⟩⟩) e1⟩)
      rw [e1, nI_clamp (n := t) (by omega)]
      exact congrArg (upd L t) (pk_sub (b := 1) (by omega))
theorem i_vc_begin {k : Nat} {u : SX} {v : SY} (I : i_Rel k u v) (hk : k + 5 ≤ 2560) (v1 : Int32) (v2 : Int32) (v3 : Int32) : wpX_begin (fun r u' => wpY_begin (fun r' v' => r' = r ∧ i_Rel (k + 5) u' v') v v1 v2 v3) u v1 v2 v3 := by
  obtain ⟨f, K, O, L, B, va, ho, dn, tT, tS, f', tu, st, va', ac, ho', rfl, rfl, g⟩ := I
  unfold wpX_begin wpY_begin
  dsimp only
  by_cases h0 : v1 = 0
  · subst h0
    refine br_t rfl ?_
    rcases sr_rg v2 with h | ⟨t, ht, e⟩
    · exact sr_x_var_n h _ (br_t rfl (br_f (by decide) (br_t rfl (br_c (fun _ => ⟨rfl, sr_rel g⟩) (fun z => br_f (sr_n2 (h.resolve_left z)) ⟨rfl, sr_rel g⟩)))))
    · subst e
      have e3 : 3 * 0 + nI t = nI t := by
        have q := sr_ix 3 0 t
        rw [Nat.mul_zero, Nat.zero_add] at q
        exact q
      refine sr_x_var_y ht _ (br_f (by decide) ⟨pk_in t 6 (by omega), nm_r (e' := upd B t v3) (by rw [nI_clamp (n := t) (by omega)]) (br_t rfl (br_f (nI_pos (by omega)) (br_t (nI_le (b := 2) (by omega) (by decide)) ⟨pk_in t 6 (by omega) e3, nm_r (e' := upd B t v3) (by rw [pk_cl t e3]) ⟨rfl, sr_rel g⟩⟩)))⟩)
  · by_cases h1 : v1 = 1
    · subst h1
      refine br_f h0 (br_t rfl ?_)
      rcases sr_rg v2 with h | ⟨t, ht, e⟩
      · exact sr_x_thr_n h _ (br_t rfl (br_f h0 (br_t rfl (br_c (fun _ => ⟨rfl, sr_rel g⟩) (fun z => br_f (sr_n2 (h.resolve_left z)) ⟨rfl, sr_rel g⟩)))))
      · subst e
        have e2 : 3 + nI t = nI (3 + t) := nI_add 3 t
        have e3 : 3 * 1 + nI t = nI (3 + t) := sr_ix 3 1 t
        refine sr_x_thr_y ht _ (br_f (by decide) ⟨pk_in (3 + t) 6 (by omega) e2, nm_r (e' := upd B (3 + t) v3) (by rw [pk_cl _ e2]) (br_f h0 (br_t rfl (br_f (nI_pos (by omega)) (br_t (nI_le (b := 2) (by omega) (by decide)) ⟨pk_in (3 + t) 6 (by omega) e3, nm_r (e' := upd B (3 + t) v3) (by rw [pk_cl _ e3]) ⟨rfl, sr_rel g⟩⟩))))⟩)
    · exact br_f h0 (br_f h1 (br_f h0 (br_f h1 ⟨rfl, sr_rel g⟩)))
theorem i_vc_length {k : Nat} {u : SX} {v : SY} (I : i_Rel k u v) (hk : k + 5 ≤ 2560) (v1 : Int32) : wpX_length (fun r => wpY_length (fun r' => r' = r ∧ i_Rel (k + 5) u v) v v1) u v1 := by
  obtain ⟨f, K, O, L, B, va, ho, dn, tT, tS, f', tu, st, va', ac, ho', rfl, rfl, g⟩ := I
  unfold wpX_length wpY_length
  dsimp only
  rcases sr_rg v1 with h | ⟨t, ht, e⟩
  · exact sr_x_thr_n h _ (br_t rfl (sr_y_thr_n h _ (br_t rfl ⟨rfl, sr_rel g⟩)))
  · subst e
    exact sr_x_thr_y ht _ (br_f (by decide) ⟨pk_in t 3 ht, sr_y_thr_y ht _ (br_f (by decide) ⟨pk_in t 3 ht, rfl, sr_rel g⟩)⟩)
theorem i_vc_schedules {k : Nat} {u : SX} {v : SY} (I : i_Rel k u v) (hk : k + 5 ≤ 2560) : wpX_schedules (fun r u' => wpY_schedules (fun r' v' => r' = r ∧ i_Rel (k + 5) u' v') v) u := by
  obtain ⟨f, K, O, L, B, va, ho, dn, tT, tS, f', tu, st, va', ac, ho', rfl, rfl, g⟩ := I
  obtain ⟨l, hC, hl⟩ := sr_ends g B
  exact sr_xm_sch g hC hl _ (fun _ _ _ _ _ _ => sr_ym_sch g hC hl _ (fun _ _ _ _ _ _ => ⟨rfl, sr_rel g⟩))
theorem i_vc_classes {k : Nat} {u : SX} {v : SY} (I : i_Rel k u v) (hk : k + 5 ≤ 2560) : wpX_classes (fun r u' => wpY_classes (fun r' v' => r' = r ∧ i_Rel (k + 5) u' v') v) u := by
  obtain ⟨f, K, O, L, B, va, ho, dn, tT, tS, f', tu, st, va', ac, ho', rfl, rfl, g⟩ := I
  obtain ⟨l, hC, hl⟩ := sr_ends g B
  exact sr_xm_cls g hC hl _ (fun _ _ _ _ _ _ => sr_ym_cls g hC hl _ (fun _ _ _ _ _ _ => ⟨rfl, sr_rel g⟩))
theorem i_vc_canStick {k : Nat} {u : SX} {v : SY} (I : i_Rel k u v) (hk : k + 5 ≤ 2560) : wpX_canStick (fun r u' => wpY_canStick (fun r' v' => r' = r ∧ i_Rel (k + 5) u' v') v) u := by
  obtain ⟨f, K, O, L, B, va, ho, dn, tT, tS, f', tu, st, va', ac, ho', rfl, rfl, g⟩ := I
  obtain ⟨l, hC, hl⟩ := sr_ends g B
  exact sr_xm_stk g hC hl _ (fun _ _ _ _ _ _ => sr_ym_stk g hC hl _ (fun _ _ _ _ _ _ => ⟨rfl, sr_rel g⟩))
theorem i_vc_canEnd {k : Nat} {u : SX} {v : SY} (I : i_Rel k u v) (hk : k + 5 ≤ 2560) (v1 : Int32) (v2 : Int32) : wpX_canEnd (fun r u' => wpY_canEnd (fun r' v' => r' = r ∧ i_Rel (k + 5) u' v') v v1 v2) u v1 v2 := by
  obtain ⟨f, K, O, L, B, va, ho, dn, tT, tS, f', tu, st, va', ac, ho', rfl, rfl, g⟩ := I
  obtain ⟨l, hC, hl⟩ := sr_ends g B
  unfold wpX_canEnd wpY_canEnd
  dsimp only
  rcases sr_rg v1 with h | ⟨x, hx, e⟩
  · refine sr_x_var_n h _ (br_t rfl ?_)
    unfold wpY_canEndBoth
    dsimp only
    exact br_c (fun _ => ⟨sr_b_n false, rfl, sr_rel g⟩) (fun z => br_t (sr_32 (h.resolve_left z)) ⟨sr_b_n false, rfl, sr_rel g⟩)
  · subst e
    refine sr_x_var_y hx _ (br_f (by decide) (sr_xm_ce g hC hl _ hx hx (fun _ _ _ _ _ _ => ?_)))
    generalize hq : sr_an (sr_eb K O B x x v2 v2) (sr_first K O L B :: l) = q
    cases q
    · exact br_t rfl (sr_ym_ce g hC hl _ hx hx (fun _ _ _ _ _ _ => ⟨sr_b_n _, by rw [hq]; exact ⟨rfl, sr_rel g⟩⟩))
    · exact br_f (by decide) (sr_ym_ce g hC hl _ hx hx (fun _ _ _ _ _ _ => ⟨sr_b_n _, by rw [hq]; exact ⟨rfl, sr_rel g⟩⟩))
theorem i_vc_canEndBoth {k : Nat} {u : SX} {v : SY} (I : i_Rel k u v) (hk : k + 5 ≤ 2560) (v1 : Int32) (v2 : Int32) (v3 : Int32) (v4 : Int32) : wpX_canEndBoth (fun r u' => wpY_canEndBoth (fun r' v' => r' = r ∧ i_Rel (k + 5) u' v') v v1 v2 v3 v4) u v1 v2 v3 v4 := by
  obtain ⟨f, K, O, L, B, va, ho, dn, tT, tS, f', tu, st, va', ac, ho', rfl, rfl, g⟩ := I
  obtain ⟨l, hC, hl⟩ := sr_ends g B
  unfold wpX_canEndBoth
  dsimp only
  rcases sr_rg v1 with h | ⟨x, hx, e⟩
  · refine sr_x_var_n h _ (br_t rfl ?_)
    unfold wpY_canEndBoth
    dsimp only
    exact br_c (fun _ => ⟨rfl, sr_rel g⟩) (fun z => br_t (sr_32 (h.resolve_left z)) ⟨rfl, sr_rel g⟩)
  · subst e
    rcases sr_rg v3 with h | ⟨y, hy, e⟩
    · refine sr_x_var_y hx _ (br_f (by decide) (sr_x_var_n h _ (br_t rfl ?_)))
      unfold wpY_canEndBoth
      dsimp only
      exact br_f (nI_pos (by omega)) (br_f (nI_nlt (a := 2) (by omega) (by decide)) (br_c (fun _ => ⟨rfl, sr_rel g⟩) (fun z => br_f (sr_n2 (h.resolve_left z)) ⟨rfl, sr_rel g⟩)))
    · subst e
      refine sr_x_var_y hx _ (br_f (by decide) (sr_x_var_y hy _ (br_f (by decide) (sr_xm_ce g hC hl _ hx hy (fun _ _ _ _ _ _ => ?_)))))
      generalize hq : sr_an (sr_eb K O B x y v2 v4) (sr_first K O L B :: l) = q
      cases q
      · exact br_t rfl (sr_ym_ce g hC hl _ hx hy (fun _ _ _ _ _ _ => by rw [hq]; exact ⟨rfl, sr_rel g⟩))
      · exact br_f (by decide) (sr_ym_ce g hC hl _ hx hy (fun _ _ _ _ _ _ => by rw [hq]; exact ⟨rfl, sr_rel g⟩))
theorem i_vc_extreme {k : Nat} {u : SX} {v : SY} (I : i_Rel k u v) (hk : k + 5 ≤ 2560) (v1 : Int32) (v2 : Int32) : wpX_extreme (fun r u' => wpY_extreme (fun r' v' => r' = r ∧ i_Rel (k + 5) u' v') v v1 v2) u v1 v2 := by
  obtain ⟨f, K, O, L, B, va, ho, dn, tT, tS, f', tu, st, va', ac, ho', rfl, rfl, g⟩ := I
  obtain ⟨l, hC, hl⟩ := sr_ends g B
  unfold wpX_extreme wpY_extreme
  dsimp only
  rcases sr_rg v1 with h | ⟨x, hx, e⟩
  · exact sr_x_var_n h _ (br_t rfl (br_c (fun _ => ⟨rfl, sr_rel g⟩) (fun z => br_t (sr_32 (h.resolve_left z)) ⟨rfl, sr_rel g⟩)))
  · subst e
    have a1 : ¬ nI x < 0 := nI_pos (by omega)
    have a2 : ¬ 2 < nI x := nI_nlt (a := 2) (by omega) (by decide)
    refine sr_x_var_y hx _ (br_f (by decide) ?_)
    by_cases h0 : v2 = 0
    · subst h0
      refine br_t rfl (br_f (by decide) (br_f (by decide) ?_))
      exact sr_xm_ex (w := false) g hC hl _ (by omega) (fun _ _ _ _ _ _ => br_f a1 (br_f a2 (br_t rfl (sr_ym_en (w := false) g hC hl _ (by omega) (fun _ _ _ _ _ _ => ⟨rfl, sr_rel g⟩)))))
    · by_cases h1 : v2 = 1
      · subst h1
        refine br_f h0 (br_t rfl (br_f (by decide) (br_t rfl ?_)))
        exact sr_xm_ex (w := true) g hC hl _ (by omega) (fun _ _ _ _ _ _ => br_f a1 (br_f a2 (br_f h0 (br_t rfl (sr_ym_en (w := true) g hC hl _ (by omega) (fun _ _ _ _ _ _ => ⟨rfl, sr_rel g⟩))))))
      · exact br_f h0 (br_f h1 (br_t rfl (br_f a1 (br_f a2 (br_f h0 (br_f h1 ⟨rfl, sr_rel g⟩))))))
theorem i_vc_accumulator {k : Nat} {u : SX} {v : SY} (I : i_Rel k u v) (hk : k + 5 ≤ 2560) (v1 : Int32) (v2 : Int32) : wpX_accumulator (fun r u' => wpY_accumulator (fun r' v' => r' = r ∧ i_Rel (k + 5) u' v') v v1 v2) u v1 v2 := by
  obtain ⟨f, K, O, L, B, va, ho, dn, tT, tS, f', tu, st, va', ac, ho', rfl, rfl, g⟩ := I
  obtain ⟨l, hC, hl⟩ := sr_ends g B
  unfold wpX_accumulator wpY_accumulator
  dsimp only
  rcases sr_rg v1 with h | ⟨x, hx, e⟩
  · exact sr_x_thr_n h _ (br_t rfl (sr_y_thr_n h _ (br_t rfl ⟨rfl, sr_rel g⟩)))
  · subst e
    have e3 : 3 + nI x = nI (3 + x) := nI_add 3 x
    refine sr_x_thr_y hx _ (br_f (by decide) ?_)
    by_cases h0 : v2 = 0
    · subst h0
      refine br_t rfl (br_f (by decide) (br_f (by decide) ?_))
      rw [e3]
      refine sr_xm_ex (w := false) g hC hl _ (by omega) (fun _ _ _ _ _ _ => sr_y_thr_y hx _ (br_f (by decide) (br_t rfl ?_)))
      unfold wY_accumulator_21
      rw [e3]
      exact sr_ym_en (w := false) g hC hl _ (by omega) (fun _ _ _ _ _ _ => ⟨rfl, sr_rel g⟩)
    · by_cases h1 : v2 = 1
      · subst h1
        refine br_f h0 (br_t rfl (br_f (by decide) (br_t rfl ?_)))
        rw [e3]
        refine sr_xm_ex (w := true) g hC hl _ (by omega) (fun _ _ _ _ _ _ => sr_y_thr_y hx _ (br_f (by decide) (br_f h0 (br_t rfl ?_))))
        unfold wY_accumulator_21
        rw [e3]
        exact sr_ym_en (w := true) g hC hl _ (by omega) (fun _ _ _ _ _ _ => ⟨rfl, sr_rel g⟩)
      · exact br_f h0 (br_f h1 (br_t rfl (sr_y_thr_y hx _ (br_f (by decide) (br_f h0 (br_f h1 ⟨rfl, sr_rel g⟩))))))
theorem i_vc_races {k : Nat} {u : SX} {v : SY} (I : i_Rel k u v) (hk : k + 5 ≤ 2560) (v1 : Int32) : wpX_races (fun r u' => wpY_races (fun r' v' => r' = r ∧ i_Rel (k + 5) u' v') v v1) u v1 := by
  obtain ⟨f, K, O, L, B, va, ho, dn, tT, tS, f', tu, st, va', ac, ho', rfl, rfl, g⟩ := I
  obtain ⟨l, hC, hl⟩ := sr_ends g B
  rcases sr_rg v1 with h | ⟨x, hx, e⟩
  · unfold wpX_races
    dsimp only
    refine sr_x_var_n h _ (br_t rfl ?_)
    unfold wpY_races
    dsimp only
    exact br_c (fun _ => ⟨rfl, sr_rel g⟩) (fun z => br_t (sr_32 (h.resolve_left z)) ⟨rfl, sr_rel g⟩)
  · subst e
    refine sr_xm_ra g hC hl _ hx (fun _ _ _ _ _ _ => ?_)
    unfold wpY_races
    dsimp only
    refine br_f (nI_pos (by omega)) (br_f (nI_nlt (a := 2) (by omega) (by decide)) (sr_ym_en (w := false) g hC hl _ (by omega) (fun _ _ _ _ _ _ => sr_ym_en (w := true) g hC hl _ (by omega) (fun _ _ _ _ _ _ => ?_))))
    generalize hq : sr_an (fun q => !decide (sr_vl K O B x q = sr_vl K O B x (sr_first K O L B))) (sr_first K O L B :: l) = q
    cases q
    · refine br_t ?_ ⟨rfl, sr_rel g⟩
      rw [sr_fo_eq _ hq, sr_fo_eq _ hq]
    · refine br_f (fun z => ?_) ⟨rfl, sr_rel g⟩
      have y := sr_fo_ne _ _ _ (Int32.le_refl _) (Int32.le_refl _) hq
      rw [z] at y
      omega
end
