/-! the fitting as a recursion over sets of points -/
noncomputable def am_clo (q : Nat) (a b : Nat → Nat) (g0 : Nat → Bool) : Nat → Bool := fun i => @decide (∀ h : Nat → Bool, (∀ i, g0 i = true → h i = true) → am_Cl q a b h → h i = true) (Classical.propDecidable _)
theorem am_clo_ls (q : Nat) (a b : Nat → Nat) (g0 : Nat → Bool) : am_Ls q a b g0 (am_clo q a b g0) := by
  have iff : ∀ i, am_clo q a b g0 i = true ↔ ∀ h : Nat → Bool, (∀ i, g0 i = true → h i = true) → am_Cl q a b h → h i = true := fun i => by
    unfold am_clo; exact @decide_eq_true_iff _ (Classical.propDecidable _)
  refine ⟨fun i hi => (iff i).mpr (fun h h1 _ => h1 i hi), fun k hk hg => (iff _).mpr (fun h h1 h2 => h2 k hk ((iff _).mp hg h h1 h2)), fun h h1 h2 i hi => (iff i).mp hi h h1 h2⟩
theorem am_Ls.eq {q : Nat} {a b : Nat → Nat} {g0 g : Nat → Bool} (h : am_Ls q a b g0 g) : g = am_clo q a b g0 := h.uniq (am_clo_ls q a b g0)
abbrev ft_Sg : Type := (Nat → Bool) × (Nat → Bool) × Nat × (Nat → Nat → Int32)
def ft_or (g S : Nat → Bool) : Nat → Bool := fun i => g i || S i
noncomputable def ft_F (P q T : Nat) (fs sn : Nat → Nat) (bit : Nat → Nat → Bool) (al : Nat → Bool) (care : Bool) : Nat → (Nat → Bool) → Option Nat → Bool → ft_Sg → Option ft_Sg
  | 0, _, _, _, _ => none
  | f + 1, S, par, sd, s =>
    if ft_kd care (ft_no P S s.2.1) (ft_no P S s.1) = 2 then
      match ft_bst al (fun t => ft_cost P q fs sn S s.1 s.2.1 (fun i => bit i t)) T with
      | none => none
      | some p => match ft_F P q T fs sn bit al care f (fun i => S i && bit i p.1) (some s.2.2.1) true (s.1, s.2.1, s.2.2.1 + 1, ft_nw (ft_sp s.2.2.2 par sd s.2.2.1) s.2.2.1 2 (nI p.1) (nI (am_cn S P)) (ft_dp s.2.2.2 par) (ft_pI par)) with
        | none => none
        | some s2 => ft_F P q T fs sn bit al care f (fun i => S i && !bit i p.1) (some s.2.2.1) false s2
    else some (if ft_kd care (ft_no P S s.2.1) (ft_no P S s.1) = 1 then am_clo q fs sn (ft_or s.1 S) else s.1, if ft_kd care (ft_no P S s.2.1) (ft_no P S s.1) = 1 then s.2.1 else am_clo q sn fs (ft_or s.2.1 S), s.2.2.1 + 1, ft_nw (ft_sp s.2.2.2 par sd s.2.2.1) s.2.2.1 (ft_kd care (ft_no P S s.2.1) (ft_no P S s.1)) (-2) (nI (am_cn S P)) (ft_dp s.2.2.2 par) (ft_pI par))
theorem ft_kd_cases (care nb ng : Bool) : ft_kd care nb ng = 0 ∨ ft_kd care nb ng = 1 ∨ ft_kd care nb ng = 2 := by cases care <;> cases nb <;> cases ng <;> decide
theorem am_cn_split (S β : Nat → Bool) (P : Nat) : am_cn (fun i => S i && β i) P + am_cn (fun i => S i && !β i) P = am_cn S P := by
  induction P with
  | zero => rfl
  | succ P ih =>
    unfold am_cn
    cases e1 : S P <;> cases e2 : β P <;> simp [← ih] <;> omega
/-- a cost stands: the test parts the set -/
theorem ft_cost_some {P q : Nat} {fs sn : Nat → Nat} {S g b β : Nat → Bool} {c : Nat} (h : ft_cost P q fs sn S g b β = some c) : 1 ≤ am_cn (fun i => S i && β i) P ∧ 1 ≤ am_cn (fun i => S i && !β i) P := by
  unfold ft_cost at h
  split at h
  · cases h
  · rename_i hn
    have := am_cn_split S β P
    have h1 : am_cn (fun i => S i && β i) P ≠ 0 := fun z => hn (Or.inl z)
    have h2 : am_cn (fun i => S i && β i) P ≠ am_cn S P := fun z => hn (Or.inr z)
    omega
/-- a test that parts the set not at all -/
def ft_cs (P : Nat) (S : Nat → Bool) (β : Nat → Bool) : Bool := am_cn (fun i => S i && β i) P == 0 || am_cn (fun i => S i && β i) P == am_cn S P
theorem am_cn_zero {f : Nat → Bool} {n : Nat} (h : am_cn f n = 0) : ∀ i, i < n → f i = false := by
  induction n with
  | zero => intro i hi; exact absurd hi (Nat.not_lt_zero i)
  | succ n ih =>
    unfold am_cn at h
    intro i hi
    by_cases e : i = n
    · subst e
      cases hf : f i
      · rfl
      · rw [hf] at h; simp at h
    · exact ih (by omega) i (by omega)
theorem am_cn_zero' {f : Nat → Bool} {n : Nat} (h : ∀ i, i < n → f i = false) : am_cn f n = 0 := by
  induction n with
  | zero => rfl
  | succ n ih => unfold am_cn; rw [ih (fun i hi => h i (by omega)), h n (by omega)]; rfl
theorem ft_cs_iff (P : Nat) (S β : Nat → Bool) : ft_cs P S β = true ↔ (∀ i, i < P → S i = true → β i = false) ∨ ∀ i, i < P → S i = true → β i = true := by
  unfold ft_cs
  rw [Bool.or_eq_true_iff, beq_iff_eq, beq_iff_eq]
  have sp := am_cn_split S β P
  constructor
  · rintro (h | h)
    · refine Or.inl (fun i hi hs => ?_)
      have := am_cn_zero h i hi
      simpa [hs] using this
    · refine Or.inr (fun i hi hs => ?_)
      have := am_cn_zero (f := fun i => S i && !β i) (by omega) i hi
      simpa [hs] using this
  · rintro (h | h)
    · refine Or.inl (am_cn_zero' (fun i hi => ?_))
      cases hs : S i
      · rfl
      · simp [h i hi hs]
    · refine Or.inr ?_
      have : am_cn (fun i => S i && !β i) P = 0 := am_cn_zero' (fun i hi => by
        cases hs : S i
        · rfl
        · simp [h i hi hs])
      omega
theorem am_cn_lt {f g : Nat → Bool} {n i : Nat} (hm : ∀ j, f j = true → g j = true) (hi : i < n) (h1 : f i = false) (h2 : g i = true) : am_cn f n + 1 ≤ am_cn g n := by
  have : am_cn (fun j => f j || j == i) n = am_cn f n + 1 := by
    refine am_cn_add (f := f) (f' := fun j => f j || j == i) hi h1 (by simp) (fun j hj => ?_)
    have e : (j == i) = false := by simpa using hj
    show (f j || j == i) = f j
    rw [e]; simp
  rw [← this]
  refine am_cn_mono (fun j hj => ?_) n
  rcases Bool.or_eq_true_iff.mp hj with c | c
  · exact hm j c
  · rw [beq_iff_eq.mp c]; exact h2
/-- the tests that part not at all: more of them below a parted node -/
theorem ft_cs_more {P q T t c : Nat} {fs sn : Nat → Nat} {S g b : Nat → Bool} {bit : Nat → Nat → Bool} (ht : t < T) (h : ft_cost P q fs sn S g b (fun i => bit i t) = some c) (s : Bool) : am_cn (fun t => ft_cs P S (fun i => bit i t)) T + 1 ≤ am_cn (fun t' => ft_cs P (fun i => S i && (bit i t == s)) (fun i => bit i t')) T := by
  refine am_cn_lt (fun j hj => ?_) ht ?_ ?_
  · rcases (ft_cs_iff _ _ _).mp hj with z | z
    · exact (ft_cs_iff _ _ _).mpr (Or.inl (fun i hi hs => z i hi (by simp at hs; exact hs.1)))
    · exact (ft_cs_iff _ _ _).mpr (Or.inr (fun i hi hs => z i hi (by simp at hs; exact hs.1)))
  · have := ft_cost_some h
    unfold ft_cs
    have sp := am_cn_split S (fun i => bit i t) P
    simp only [Bool.or_eq_false_iff, beq_eq_false_iff_ne]
    omega
  · refine (ft_cs_iff _ _ _).mpr ?_
    cases s
    · exact Or.inl (fun i hi hs => by simp at hs; exact hs.2)
    · exact Or.inr (fun i hi hs => by simp at hs; exact hs.2)
theorem ft_cs_lt {P q T t c : Nat} {fs sn : Nat → Nat} {S g b : Nat → Bool} {bit : Nat → Nat → Bool} (ht : t < T) (h : ft_cost P q fs sn S g b (fun i => bit i t) = some c) : am_cn (fun t => ft_cs P S (fun i => bit i t)) T + 1 ≤ T := by
  have h1 := ft_cs_more (bit := bit) ht h true
  exact Nat.le_trans h1 (am_cn_le _ _)
/-- how many nodes come -/
theorem ft_F_n {P q T : Nat} {fs sn : Nat → Nat} {bit : Nat → Nat → Bool} {al : Nat → Bool} {care : Bool} : ∀ (f : Nat) (S : Nat → Bool) (par : Option Nat) (sd : Bool) (s s' : ft_Sg), ft_F P q T fs sn bit al care f S par sd s = some s' → s.2.2.1 + 1 ≤ s'.2.2.1 ∧ s'.2.2.1 + 1 ≤ s.2.2.1 + 2 * max 1 (am_cn S P) := by
  intro f
  induction f with
  | zero => intro S par sd s s' h; cases h
  | succ f ih =>
    intro S par sd s s' h
    unfold ft_F at h
    split at h
    · split at h
      · cases h
      · rename_i p hp
        split at h
        · cases h
        · rename_i s2 h2
          obtain ⟨-, -, hc⟩ := ft_bst_spec _ _ _ (t := p.1) (c := p.2) hp
          obtain ⟨c1, c2⟩ := ft_cost_some hc
          have sp := am_cn_split S (fun i => bit i p.1) P
          obtain ⟨a1, a2⟩ := ih _ _ _ _ _ h2
          obtain ⟨b1, b2⟩ := ih _ _ _ _ _ h
          simp only at a1 a2
          omega
    · injection h with h
      subst h
      simp only
      omega
