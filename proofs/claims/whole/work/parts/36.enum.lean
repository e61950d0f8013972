/-! an array's range that lists a set of numbers, each once -/
def am_En (e : Nat → Int32) (u v P : Nat) (S : Nat → Bool) : Prop := u ≤ v ∧ (∀ j, u ≤ j → j < v → ∃ i, i < P ∧ e j = nI i ∧ S i = true) ∧ (∀ i, S i = true → i < P ∧ ∃ j, u ≤ j ∧ j < v ∧ e j = nI i) ∧ ∀ j j', u ≤ j → j < v → u ≤ j' → j' < v → e j = e j' → j = j'
/-- how many of n from u on are so -/
def am_rc (f : Nat → Bool) (u n : Nat) : Nat := am_cn (fun j => f (u + j)) n
theorem am_cn_congr {f g : Nat → Bool} {n : Nat} (h : ∀ i, i < n → f i = g i) : am_cn f n = am_cn g n := by
  induction n with
  | zero => rfl
  | succ n ih => unfold am_cn; rw [ih (fun i hi => h i (by omega)), h n (by omega)]
theorem am_En_cn {e : Nat → Int32} {u P : Nat} (hP : P < 2 ^ 31) {p : Nat → Bool} : ∀ (n : Nat) {S : Nat → Bool} {f : Nat → Bool}, am_En e u (u + n) P S → (∀ j i, u ≤ j → j < u + n → e j = nI i → i < P → f j = p i) → am_rc f u n = am_cn (fun i => S i && p i) P := by
  intro n
  induction n with
  | zero =>
    intro S f h hf
    rw [am_cn_false]
    · rfl
    · intro i
      cases hs : S i
      · rfl
      · obtain ⟨-, j, h1, h2, -⟩ := h.2.2.1 i hs
        omega
  | succ n ih =>
    intro S f h hf
    obtain ⟨h0, h1, h2, h3⟩ := h
    obtain ⟨i0, c1, c2, c3⟩ := h1 (u + n) (by omega) (by omega)
    have hE : am_En e u (u + n) P (fun i => S i && !(i == i0)) := by
      refine ⟨by omega, fun j g1 g2 => ?_, fun i hi => ?_, fun j j' g1 g2 g3 g4 g5 => h3 j j' g1 (by omega) g3 (by omega) g5⟩
      · obtain ⟨i, e1, e2, e3⟩ := h1 j g1 (by omega)
        refine ⟨i, e1, e2, ?_⟩
        have : i ≠ i0 := fun z => by
          have := h3 j (u + n) g1 (by omega) (by omega) (by omega) (by rw [e2, c2, z])
          omega
        simp [e3, this]
      · have hi' : S i = true ∧ i ≠ i0 := by simpa using hi
        obtain ⟨e1, j, e2, e3, e4⟩ := h2 i hi'.1
        refine ⟨e1, j, e2, ?_, e4⟩
        have : j ≠ u + n := fun z => hi'.2 (nI_inj (by omega) (by omega) (by rw [← e4, z, c2]))
        omega
    have r1 := ih (f := f) hE (fun j i g1 g2 g3 g4 => hf j i g1 (by omega) g3 g4)
    have r2 : f (u + n) = p i0 := hf (u + n) i0 (by omega) (by omega) c2 c1
    show am_rc f u n + (if f (u + n) = true then 1 else 0) = _
    rw [r1, r2]
    cases hp : p i0
    · simp only [Bool.false_eq_true, if_false, Nat.add_zero]
      refine am_cn_congr (fun i _ => ?_)
      by_cases z : i = i0
      · subst z; simp [hp]
      · have zb : (i == i0) = false := by simpa using z
        show ((S i && !(i == i0)) && p i) = (S i && p i)
        rw [zb]; simp
    · simp only [if_true]
      refine (am_cn_add (f := fun i => (S i && !(i == i0)) && p i) (f' := fun i => S i && p i) c1 ?_ ?_ ?_).symm
      · simp
      · simp [c3, hp]
      · intro j hj
        have zb : (j == i0) = false := by simpa using hj
        show (S j && p j) = ((S j && !(j == i0)) && p j)
        rw [zb]; simp
/-- two places changed round -/
def am_sw (e : Nat → Int32) (a b : Nat) : Nat → Int32 := upd (upd e a (e b)) b (e a)
theorem am_sw_at (e : Nat → Int32) (a b j : Nat) : am_sw e a b j = if j = b then e a else if j = a then e b else e j := by
  unfold am_sw upd
  by_cases h1 : j = b
  · simp [h1]
  · by_cases h2 : j = a <;> simp [h1, h2]
theorem am_En_sw {e : Nat → Int32} {u v P a b : Nat} {S : Nat → Bool} (h : am_En e u v P S) (ha : u ≤ a) (ha' : a < v) (hb : u ≤ b) (hb' : b < v) : am_En (am_sw e a b) u v P S := by
  obtain ⟨h0, h1, h2, h3⟩ := h
  -- each place goes to another
  have tr : ∀ j, u ≤ j → j < v → ∃ j', u ≤ j' ∧ j' < v ∧ am_sw e a b j = e j' ∧ (j' = if j = b then a else if j = a then b else j) := by
    intro j g1 g2
    rw [am_sw_at]
    by_cases z1 : j = b
    · exact ⟨a, ha, ha', by simp [z1], by simp [z1]⟩
    · by_cases z2 : j = a
      · exact ⟨b, hb, hb', by rw [if_neg z1, if_pos z2], by rw [if_neg z1, if_pos z2]⟩
      · exact ⟨j, g1, g2, by simp [z1, z2], by simp [z1, z2]⟩
  refine ⟨h0, fun j g1 g2 => ?_, fun i hi => ?_, fun j j' g1 g2 g3 g4 g5 => ?_⟩
  · obtain ⟨j', e1, e2, e3, -⟩ := tr j g1 g2
    rw [e3]; exact h1 j' e1 e2
  · obtain ⟨e1, j, e2, e3, e4⟩ := h2 i hi
    refine ⟨e1, if j = b then a else if j = a then b else j, ?_, ?_, ?_⟩
    · split
      · exact ha
      · split
        · exact hb
        · exact e2
    · split
      · exact ha'
      · split
        · exact hb'
        · exact e3
    · rw [am_sw_at]
      by_cases z1 : j = b
      · by_cases z2 : a = b
        · simp [z1, z2, ← e4]
        · simp [z1, z2, ← e4]
      · by_cases z2 : j = a
        · simp [z1, z2, ← e4]
        · simp [z1, z2, ← e4]
  · obtain ⟨k, e1, e2, e3, e4⟩ := tr j g1 g2
    obtain ⟨k', f1, f2, f3, f4⟩ := tr j' g3 g4
    rw [e3, f3] at g5
    have := h3 k k' e1 e2 f1 f2 g5
    rw [e4, f4] at this
    by_cases z1 : j = b <;> by_cases z2 : j' = b <;> by_cases z3 : j = a <;> by_cases z4 : j' = a <;> simp_all
/-- a list parted at m by a test -/
theorem am_En_part {e : Nat → Int32} {u v m P : Nat} {S β : Nat → Bool} (hP : P < 2 ^ 31) (h : am_En e u v P S) (hu : u ≤ m) (hv : m ≤ v) (h1 : ∀ j i, u ≤ j → j < m → e j = nI i → i < P → β i = true) (h2 : ∀ j i, m ≤ j → j < v → e j = nI i → i < P → β i = false) : am_En e u m P (fun i => S i && β i) ∧ am_En e m v P (fun i => S i && !β i) := by
  obtain ⟨g0, g1, g2, g3⟩ := h
  refine ⟨⟨hu, fun j c1 c2 => ?_, fun i hi => ?_, fun j j' c1 c2 c3 c4 => g3 j j' c1 (by omega) c3 (by omega)⟩, ⟨hv, fun j c1 c2 => ?_, fun i hi => ?_, fun j j' c1 c2 c3 c4 => g3 j j' (by omega) c2 (by omega) c4⟩⟩
  · obtain ⟨i, e1, e2, e3⟩ := g1 j c1 (by omega)
    exact ⟨i, e1, e2, by simp [e3, h1 j i c1 c2 e2 e1]⟩
  · have hi' : S i = true ∧ β i = true := by simpa using hi
    obtain ⟨e1, j, e2, e3, e4⟩ := g2 i hi'.1
    refine ⟨e1, j, e2, ?_, e4⟩
    rcases Nat.lt_or_ge j m with c | c
    · exact c
    · have := h2 j i c e3 e4 e1
      rw [hi'.2] at this; cases this
  · obtain ⟨i, e1, e2, e3⟩ := g1 j (by omega) c2
    exact ⟨i, e1, e2, by simp [e3, h2 j i c1 c2 e2 e1]⟩
  · have hi' : S i = true ∧ β i = false := by simpa using hi
    obtain ⟨e1, j, e2, e3, e4⟩ := g2 i hi'.1
    refine ⟨e1, j, ?_, e3, e4⟩
    rcases Nat.lt_or_ge j m with c | c
    · have := h1 j i e2 c e4 e1
      rw [hi'.2] at this; cases this
    · exact c
theorem am_En_size {e : Nat → Int32} {u v P : Nat} {S : Nat → Bool} (hP : P < 2 ^ 31) (h : am_En e u v P S) : v - u = am_cn S P := by
  have e1 : u + (v - u) = v := by have := h.1; omega
  have r := am_En_cn (p := fun _ => true) (f := fun _ => true) hP (v - u) (S := S) (by rw [e1]; exact h) (fun _ _ _ _ _ _ => rfl)
  have r2 : am_rc (fun _ => true) u (v - u) = v - u := by
    unfold am_rc
    generalize v - u = n
    induction n with
    | zero => rfl
    | succ n ih => unfold am_cn; rw [ih]; rfl
  rw [r2] at r
  rw [r]
  exact am_cn_congr (fun i _ => by simp)
