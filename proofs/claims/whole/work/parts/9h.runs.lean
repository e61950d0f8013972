/-! runs of signs of one kind -/
def tk_rn (tc : Nat → Nat) (p : Nat → Bool) (n : Nat) : Nat → Nat → Nat
  | 0, a => a
  | f + 1, a => if a < n ∧ p (tc a) = true then tk_rn tc p n f (a + 1) else a
/-- where the run of p that begins at a ends -/
def tk_e (tc : Nat → Nat) (p : Nat → Bool) (n a : Nat) : Nat := tk_rn tc p n (n - a) a
theorem tk_rn_ge {tc : Nat → Nat} {p : Nat → Bool} {n : Nat} : ∀ (f a : Nat), a ≤ tk_rn tc p n f a ∧ (a ≤ n → tk_rn tc p n f a ≤ n) ∧ ∀ i, a ≤ i → i < tk_rn tc p n f a → p (tc i) = true := by
  intro f
  induction f with
  | zero => intro a; exact ⟨Nat.le_refl _, fun h => h, fun i h1 h2 => absurd h2 (Nat.not_lt.mpr h1)⟩
  | succ f ih =>
    intro a
    unfold tk_rn
    by_cases c : a < n ∧ p (tc a) = true
    · rw [if_pos c]
      obtain ⟨h1, h2, h3⟩ := ih (a + 1)
      refine ⟨by omega, fun _ => h2 (by omega), fun i g1 g2 => ?_⟩
      by_cases e : i = a
      · rw [e]; exact c.2
      · exact h3 i (by omega) g2
    · rw [if_neg c]
      exact ⟨Nat.le_refl _, fun h => h, fun i g1 g2 => absurd g2 (Nat.not_lt.mpr g1)⟩
theorem tk_rn_end {tc : Nat → Nat} {p : Nat → Bool} {n : Nat} : ∀ (f a : Nat), n ≤ a + f → a ≤ n → tk_rn tc p n f a < n → p (tc (tk_rn tc p n f a)) = false := by
  intro f
  induction f with
  | zero =>
    intro a h1 h2 h3
    exact absurd (show a < n from h3) (by omega)
  | succ f ih =>
    intro a h1 h2 h3
    unfold tk_rn at h3 ⊢
    by_cases c : a < n ∧ p (tc a) = true
    · rw [if_pos c] at h3 ⊢
      exact ih (a + 1) (by omega) (by omega) h3
    · rw [if_neg c] at h3 ⊢
      cases e : p (tc a) with
      | false => rfl
      | true => exact absurd ⟨h3, e⟩ c
theorem tk_e_step {tc : Nat → Nat} {p : Nat → Bool} {n a : Nat} (h : a < n) (hp : p (tc a) = true) : tk_e tc p n a = tk_e tc p n (a + 1) := by
  unfold tk_e
  rw [show n - a = (n - (a + 1)) + 1 by omega]
  show (if a < n ∧ p (tc a) = true then tk_rn tc p n (n - (a + 1)) (a + 1) else a) = _
  rw [if_pos ⟨h, hp⟩]
theorem tk_e_stop {tc : Nat → Nat} {p : Nat → Bool} {n a : Nat} (h : ¬ (a < n ∧ p (tc a) = true)) : tk_e tc p n a = a := by
  unfold tk_e
  cases hf : n - a with
  | zero => rfl
  | succ f =>
    show (if a < n ∧ p (tc a) = true then tk_rn tc p n f (a + 1) else a) = a
    rw [if_neg h]
