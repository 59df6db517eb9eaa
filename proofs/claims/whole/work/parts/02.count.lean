/-! at most 34650 ends: a potential by multinomials -/
def sr_fc : Nat → Nat
  | 0 => 1
  | n + 1 => (n + 1) * sr_fc n
def sr_M (a b c : Nat) : Nat := sr_fc (a + b + c) / (sr_fc a * sr_fc b * sr_fc c)
def sr_W (a b c t : Nat) : Nat := if t = 0 then sr_M (a - 1) b c else if t = 1 then sr_M a (b - 1) c else sr_M a b (c - 1)
def sr_P (a b c t : Nat) : Nat := if t = 0 then a else if t = 1 then b else c
def sr_V (a b c t : Nat) : Nat := if 0 < sr_P a b c t then sr_W a b c t else 0
def sr_T (a b c t : Nat) : Nat := (if t < 1 then sr_V a b c 1 else 0) + (if t < 2 then sr_V a b c 2 else 0)
theorem sr_F1 : ∀ a, a < 5 → ∀ b, b < 5 → ∀ c, c < 5 → ∀ t, t < 3 → 0 < sr_P a b c t → sr_T a b c t + sr_W a b c t ≤ sr_M a b c := by decide +kernel
theorem sr_F2 (a b c j t : Nat) (hj : j < 3) (ht : t < j) (hp : 0 < sr_P a b c j) : sr_T a b c j + sr_W a b c j ≤ sr_T a b c t := by
  have hv : sr_V a b c j = sr_W a b c j := if_pos hp
  rw [← hv]
  rcases (by omega : (j = 1 ∧ t = 0) ∨ (j = 2 ∧ t = 0) ∨ (j = 2 ∧ t = 1)) with ⟨rfl, rfl⟩ | ⟨rfl, rfl⟩ | ⟨rfl, rfl⟩
  · show 0 + sr_V a b c 2 + sr_V a b c 1 ≤ sr_V a b c 1 + sr_V a b c 2
    omega
  · show 0 + 0 + sr_V a b c 2 ≤ sr_V a b c 1 + sr_V a b c 2
    omega
  · show 0 + 0 + sr_V a b c 2 ≤ 0 + sr_V a b c 2
    omega
theorem sr_F3 : ∀ a, a < 5 → ∀ b, b < 5 → ∀ c, c < 5 → 1 ≤ sr_M a b c ∧ sr_M a b c ≤ 34650 := by decide +kernel
def sr_m (L : Nat → Int32) (s : sr_S) (t : Nat) : Nat := (L t).toNatClampNeg - s.2.1 t
def sr_MM (L : Nat → Int32) (s : sr_S) : Nat := sr_M (sr_m L s 0) (sr_m L s 1) (sr_m L s 2)
def sr_TT (L : Nat → Int32) (s : sr_S) (t : Nat) : Nat := sr_T (sr_m L s 0) (sr_m L s 1) (sr_m L s 2) t
def sr_ph (K O L B : Nat → Int32) (p : Nat → Nat) : Nat → Nat
  | 0 => 0
  | n + 1 => sr_ph K O L B p n + sr_TT L (sr_run K O B p n) (p n)
theorem sr_ph_c (K O L B : Nat → Int32) {p q : Nat → Nat} : ∀ {n : Nat}, (∀ d, d < n → p d = q d) → sr_ph K O L B p n = sr_ph K O L B q n := by
  intro n
  induction n with
  | zero => intro _; rfl
  | succ n ih =>
    intro h
    show sr_ph K O L B p n + sr_TT L (sr_run K O B p n) (p n) = sr_ph K O L B q n + sr_TT L (sr_run K O B q n) (q n)
    rw [ih (fun d hd => h d (by omega)), sr_run_c K O B (fun d hd => h d (by omega)), h n (by omega)]
theorem sr_ml {K O L : Nat → Int32} (g : sr_gd K O L) (s : sr_S) {t : Nat} (ht : t < 3) : sr_m L s t < 5 := by
  obtain ⟨m, hm, e⟩ := g.1 t ht
  unfold sr_m
  rw [e, nI_clamp (by omega)]
  omega
theorem sr_P_m {L : Nat → Int32} {s : sr_S} {t : Nat} (ht : t < 3) : sr_P (sr_m L s 0) (sr_m L s 1) (sr_m L s 2) t = sr_m L s t := by
  rcases (by omega : t = 0 ∨ t = 1 ∨ t = 2) with z | z | z <;> subst z <;> rfl
theorem sr_stp_m {K O L : Nat → Int32} {s : sr_S} {t : Nat} (ht : t < 3) : sr_MM L (sr_stp K O s t) = sr_W (sr_m L s 0) (sr_m L s 1) (sr_m L s 2) t := by
  have key : ∀ j, sr_m L (sr_stp K O s t) j = if j = t then sr_m L s t - 1 else sr_m L s j := by
    intro j
    show (L j).toNatClampNeg - sr_pu s.2.1 t (s.2.1 t + 1) j = _
    by_cases e : j = t
    · subst e
      rw [sr_pus, if_pos rfl]
      unfold sr_m
      omega
    · rw [sr_pun e, if_neg e]
      rfl
  unfold sr_MM
  rw [key 0, key 1, key 2]
  rcases (by omega : t = 0 ∨ t = 1 ∨ t = 2) with z | z | z <;> subst z <;> rfl
theorem sr_ab_m {K O L : Nat → Int32} {s : sr_S} {t : Nat} (h : sr_ab K O L s t = true) : 0 < sr_m L s t := by
  have := sr_ab_lt h
  unfold sr_m
  omega
theorem sr_ph_pu {K O L B : Nat → Int32} (p : Nat → Nat) (n t : Nat) : sr_ph K O L B (sr_pu p n t) (n + 1) = sr_ph K O L B p n + sr_TT L (sr_run K O B p n) t := by
  show sr_ph K O L B (sr_pu p n t) n + sr_TT L (sr_run K O B (sr_pu p n t) n) (sr_pu p n t n) = _
  rw [sr_ph_c K O L B (q := p) (fun d hd => sr_pun (by omega)), sr_run_pu K O B (Nat.le_refl n), sr_pus]
theorem sr_MM_pu {K O L B : Nat → Int32} (p : Nat → Nat) (n : Nat) {t : Nat} (ht : t < 3) : sr_MM L (sr_run K O B (sr_pu p n t) (n + 1)) = sr_W (sr_m L (sr_run K O B p n) 0) (sr_m L (sr_run K O B p n) 1) (sr_m L (sr_run K O B p n) 2) t := by
  have e : sr_run K O B (sr_pu p n t) (n + 1) = sr_stp K O (sr_run K O B p n) t := by
    show sr_stp K O (sr_run K O B (sr_pu p n t) n) (sr_pu p n t n) = _
    rw [sr_run_pu K O B (Nat.le_refl n), sr_pus]
  rw [e]
  exact sr_stp_m ht
theorem sr_MM_1 {K O L : Nat → Int32} (g : sr_gd K O L) (s : sr_S) : 1 ≤ sr_MM L s := (sr_F3 _ (sr_ml g s (by omega)) _ (sr_ml g s (by omega)) _ (sr_ml g s (by omega))).1
theorem sr_ext_ph {K O L B : Nat → Int32} (g : sr_gd K O L) : ∀ (f : Nat) (p : Nat → Nat) (n : Nat), sr_ph K O L B (sr_ext K O L B f p n).1 (sr_ext K O L B f p n).2 + 1 ≤ sr_ph K O L B p n + sr_MM L (sr_run K O B p n) := by
  intro f
  induction f with
  | zero => intro p n; exact Nat.add_le_add_left (sr_MM_1 g _) _
  | succ f ih =>
    intro p n
    by_cases c : sr_fa (sr_A K O L B p n) 0 < 3
    · have e : sr_ext K O L B (f + 1) p n = sr_ext K O L B f (sr_pu p n (sr_fa (sr_A K O L B p n) 0)) (n + 1) := if_pos c
      rw [e]
      have h1 := ih (sr_pu p n (sr_fa (sr_A K O L B p n) 0)) (n + 1)
      rw [sr_ph_pu, sr_MM_pu p n c] at h1
      have h2 : sr_TT L (sr_run K O B p n) (sr_fa (sr_A K O L B p n) 0) + sr_W (sr_m L (sr_run K O B p n) 0) (sr_m L (sr_run K O B p n) 1) (sr_m L (sr_run K O B p n) 2) (sr_fa (sr_A K O L B p n) 0) ≤ sr_MM L (sr_run K O B p n) :=
        sr_F1 _ (sr_ml g _ (by omega)) _ (sr_ml g _ (by omega)) _ (sr_ml g _ (by omega)) _ c (by rw [sr_P_m c]; exact sr_ab_m (sr_fa_sp c).2)
      omega
    · have e : sr_ext K O L B (f + 1) p n = (p, n) := if_neg c
      rw [e]
      exact Nat.add_le_add_left (sr_MM_1 g _) _
theorem sr_nx_ph {K O L B : Nat → Int32} (g : sr_gd K O L) {p : Nat → Nat} : ∀ (n : Nat) (s : (Nat → Nat) × Nat), sr_nx K O L B p n = some s → sr_ph K O L B s.1 s.2 + 1 ≤ sr_ph K O L B p n := by
  intro n
  induction n with
  | zero => intro s h; exact nomatch h
  | succ d ih =>
    intro s e
    have e3 : sr_ph K O L B p (d + 1) = sr_ph K O L B p d + sr_TT L (sr_run K O B p d) (p d) := rfl
    by_cases c : sr_fa (sr_A K O L B p d) (p d + 1) < 3
    · have e2 : sr_nx K O L B p (d + 1) = some (sr_ext K O L B (11 - d) (sr_pu p d (sr_fa (sr_A K O L B p d) (p d + 1))) (d + 1)) := if_pos c
      rw [e2] at e
      cases e
      have h1 := sr_ext_ph (B := B) g (11 - d) (sr_pu p d (sr_fa (sr_A K O L B p d) (p d + 1))) (d + 1)
      rw [sr_ph_pu, sr_MM_pu p d c] at h1
      have h2 : sr_TT L (sr_run K O B p d) (sr_fa (sr_A K O L B p d) (p d + 1)) + sr_W (sr_m L (sr_run K O B p d) 0) (sr_m L (sr_run K O B p d) 1) (sr_m L (sr_run K O B p d) 2) (sr_fa (sr_A K O L B p d) (p d + 1)) ≤ sr_TT L (sr_run K O B p d) (p d) :=
        sr_F2 _ _ _ _ _ c (by have := (sr_fa_sp c).1; omega) (by rw [sr_P_m c]; exact sr_ab_m (sr_fa_sp c).2)
      omega
    · have e2 : sr_nx K O L B p (d + 1) = sr_nx K O L B p d := if_neg c
      rw [e2] at e
      have := ih s e
      omega
/-- the ends behind s, one after the other -/
def sr_Ch (K O L B : Nat → Int32) : (Nat → Nat) × Nat → List ((Nat → Nat) × Nat) → Prop
  | s, [] => sr_nx K O L B s.1 s.2 = none
  | s, s' :: l => sr_nx K O L B s.1 s.2 = some s' ∧ sr_Ch K O L B s' l
theorem sr_ch_ex {K O L B : Nat → Int32} (g : sr_gd K O L) : ∀ (m : Nat) (s : (Nat → Nat) × Nat), sr_ph K O L B s.1 s.2 ≤ m → ∃ l, sr_Ch K O L B s l ∧ l.length ≤ m := by
  intro m
  induction m with
  | zero =>
    intro s h
    cases e : sr_nx K O L B s.1 s.2 with
    | none => exact ⟨[], e, Nat.le_refl _⟩
    | some s' =>
      have := sr_nx_ph g s.2 s' e
      omega
  | succ m ih =>
    intro s h
    cases e : sr_nx K O L B s.1 s.2 with
    | none => exact ⟨[], e, Nat.zero_le _⟩
    | some s' =>
      have := sr_nx_ph g s.2 s' e
      obtain ⟨l, hl, h2⟩ := ih s' (by omega)
      exact ⟨s' :: l, ⟨e, hl⟩, Nat.succ_le_succ h2⟩
def sr_first (K O L B : Nat → Int32) : (Nat → Nat) × Nat := sr_ext K O L B 12 (fun _ => 0) 0
theorem sr_first_ok (K O L B : Nat → Int32) : sr_ok K O L B (sr_first K O L B).1 (sr_first K O L B).2 ∧ (sr_first K O L B).2 ≤ 12 := by
  have := sr_ext_ok (K := K) (O := O) (L := L) (B := B) 12 (fun _ => 0) 0 (fun d hd => absurd hd (Nat.not_lt_zero d))
  exact ⟨this.1, this.2⟩
theorem sr_ends {K O L : Nat → Int32} (g : sr_gd K O L) (B : Nat → Int32) : ∃ l, sr_Ch K O L B (sr_first K O L B) l ∧ l.length < 34650 := by
  have h1 := sr_ext_ph (B := B) g 12 (fun _ => 0) 0
  have h2 : sr_MM L (sr_run K O B (fun _ => 0) 0) ≤ 34650 := (sr_F3 _ (sr_ml g _ (by omega)) _ (sr_ml g _ (by omega)) _ (sr_ml g _ (by omega))).2
  have h3 : sr_ph K O L B (fun _ => 0) 0 = 0 := rfl
  obtain ⟨l, hl, hn⟩ := sr_ch_ex (B := B) g 34649 (sr_first K O L B) (by unfold sr_first; omega)
  exact ⟨l, hl, by omega⟩
