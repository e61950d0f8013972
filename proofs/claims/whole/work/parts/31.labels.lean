/-! labels, closed sets, chains of pairs -/
def am_lb (g b : Bool) : Int32 := if g then (if b then 3 else 1) else (if b then 2 else 0)
/-- the bit w of x -/
def am_bt (w x : Int32) : Bool := !decide (x &&& w = 0)
/-- the greatest k below n with f k = p, or -1 -/
def am_lo (f : Nat → Nat) (p : Nat) : Nat → Int32
  | 0 => -1
  | n + 1 => if f n = p then nI n else am_lo f p n
theorem am_lo_cases (f : Nat → Nat) (p n : Nat) : (am_lo f p n = -1 ∧ ∀ k, k < n → f k ≠ p) ∨ ∃ k, k < n ∧ am_lo f p n = nI k ∧ f k = p ∧ ∀ k', k < k' → k' < n → f k' ≠ p := by
  induction n with
  | zero => exact Or.inl ⟨rfl, fun k h => absurd h (Nat.not_lt_zero k)⟩
  | succ n ih =>
    unfold am_lo
    by_cases h : f n = p
    · rw [if_pos h]
      exact Or.inr ⟨n, Nat.lt_succ_self n, rfl, h, fun k' h1 h2 => by omega⟩
    · rw [if_neg h]
      rcases ih with ⟨h1, h2⟩ | ⟨k, h1, h2, h3, h4⟩
      · refine Or.inl ⟨h1, fun k hk => ?_⟩
        rcases Nat.lt_or_ge k n with q | q
        · exact h2 k q
        · have : k = n := by omega
          rw [this]; exact h
      · refine Or.inr ⟨k, by omega, h2, h3, fun k' g1 g2 => ?_⟩
        rcases Nat.lt_or_ge k' n with q | q
        · exact h4 k' g1 q
        · have : k' = n := by omega
          rw [this]; exact h
/-- closed under the pairs: with a k also b k -/
def am_Cl (q : Nat) (a b : Nat → Nat) (h : Nat → Bool) : Prop := ∀ k, k < q → h (a k) = true → h (b k) = true
/-- the least closed one that holds g0 -/
def am_Ls (q : Nat) (a b : Nat → Nat) (g0 g : Nat → Bool) : Prop := (∀ i, g0 i = true → g i = true) ∧ am_Cl q a b g ∧ ∀ h : Nat → Bool, (∀ i, g0 i = true → h i = true) → am_Cl q a b h → ∀ i, g i = true → h i = true
theorem am_Ls.uniq {q : Nat} {a b : Nat → Nat} {g0 g g' : Nat → Bool} (h : am_Ls q a b g0 g) (h' : am_Ls q a b g0 g') : g = g' := by
  funext i
  have h1 := h.2.2 g' h'.1 h'.2.1 i
  have h2 := h'.2.2 g h.1 h.2.1 i
  cases e1 : g i <;> cases e2 : g' i <;> simp_all
theorem am_cn_add {f f' : Nat → Bool} {i n : Nat} (hi : i < n) (h0 : f i = false) (h1 : f' i = true) (he : ∀ j, j ≠ i → f' j = f j) : am_cn f' n = am_cn f n + 1 := by
  induction n with
  | zero => exact absurd hi (Nat.not_lt_zero i)
  | succ n ih =>
    unfold am_cn
    by_cases e : i = n
    · subst e
      have : am_cn f' i = am_cn f i := by
        clear ih hi h0 h1
        have : ∀ m, m ≤ i → am_cn f' m = am_cn f m := by
          intro m
          induction m with
          | zero => intro _; rfl
          | succ m ihm => intro hm; unfold am_cn; rw [ihm (by omega), he m (by omega)]
        exact this i (Nat.le_refl i)
      rw [this, h0, h1]
      simp
    · rw [ih (by omega), he n (fun q => e q.symm)]
      omega
/-- chains of the pairs of a state: by the fields of heads, of nexts, of ends -/
def am_Ed (σ : am_St) (o fh fn ft P q : Nat) (a b : Nat → Nat) : Prop := (∀ p, p < P → am_A σ o fh p = am_lo a p q) ∧ (∀ k, k < q → am_A σ o fn k = am_lo a (a k) k) ∧ (∀ k, k < q → am_A σ o ft k = nI (b k)) ∧ ∀ k, k < q → a k < P ∧ b k < P
theorem nI_neg1 (n : Nat) (h : n < 2 ^ 31) : nI n ≠ -1 := by
  intro e
  have := congrArg Int32.toInt e
  rw [nI_toInt h] at this
  have h2 : (-1 : Int32).toInt = -1 := by decide
  rw [h2] at this
  omega
theorem am_neg1 : (-1 : Int32) < 0 := by decide
theorem am_set_bt {w x : Int32} (hw : w = 1 ∨ w = 2) (hx : x = 0 ∨ x = 1 ∨ x = 2 ∨ x = 3) : am_bt w (x ||| w) = true ∧ (am_bt w x = true → x ||| w = x) ∧ (x ||| w = 0 ∨ x ||| w = 1 ∨ x ||| w = 2 ∨ x ||| w = 3) := by
  rcases hw with rfl | rfl <;> rcases hx with rfl | rfl | rfl | rfl <;> decide
theorem am_sA_sA (σ : am_St) (o k : Nat) (f g : Nat → Int32) : am_sA (am_sA σ o k f) o k g = am_sA σ o k g := by
  unfold am_sA
  refine Prod.ext rfl (Prod.ext ?_ rfl)
  funext o' k'
  dsimp only
  split <;> rfl
theorem am_sA_comm (σ : am_St) (o k o2 k2 : Nat) (f g : Nat → Int32) (h : ¬ (k = k2 ∧ o = o2)) : am_sA (am_sA σ o k f) o2 k2 g = am_sA (am_sA σ o2 k2 g) o k f := by
  unfold am_sA
  refine Prod.ext rfl (Prod.ext ?_ rfl)
  funext o' k'
  dsimp only
  by_cases h1 : k' = k2 ∧ o' = o2
  · rw [if_pos h1, if_neg (fun h2 => h ⟨h2.1.symm.trans h1.1, h2.2.symm.trans h1.2⟩), if_pos h1]
  · simp only [if_neg h1]
theorem am_sA_id (σ : am_St) (o k : Nat) : am_sA σ o k (am_A σ o k) = σ := by
  unfold am_sA am_A
  refine Prod.ext rfl (Prod.ext ?_ rfl)
  funext o' k'
  dsimp only
  split
  · rename_i h; rw [h.1, h.2]
  · rfl
/-- what spread leaves: the labels with the bit w where g is -/
def am_or (w : Int32) (g : Nat → Bool) (L : Nat → Int32) : Nat → Int32 := fun i => if g i = true then L i ||| w else L i
theorem am_bt_or {w : Int32} {g : Nat → Bool} {L : Nat → Int32} {i : Nat} (hw : w = 1 ∨ w = 2) (hL : L i = 0 ∨ L i = 1 ∨ L i = 2 ∨ L i = 3) (hg : am_bt w (L i) = true → g i = true) : am_bt w (am_or w g L i) = g i := by
  unfold am_or
  by_cases h : g i = true
  · rw [if_pos h, (am_set_bt hw hL).1, h]
  · rw [if_neg h]
    cases e : am_bt w (L i)
    · cases e2 : g i
      · rfl
      · exact absurd e2 h
    · exact absurd (hg e) h
theorem am_bt_0 {w x : Int32} : (x &&& w = 0) = (am_bt w x = false) := by
  unfold am_bt
  by_cases h : x &&& w = 0 <;> simp [h]
theorem am_or_add {w : Int32} {g : Nat → Bool} {L : Nat → Int32} (i : Nat) (h : g i = false) : upd (am_or w g L) i (am_or w g L i ||| w) = am_or w (fun j => j == i || g j) L := by
  funext j
  unfold am_or upd
  by_cases e : j = i
  · subst e
    simp [h]
  · simp [e]
theorem nI_dec (n : Nat) : nI (n + 1) + -1 = nI n := by rw [← nI_pred n, Int32.sub_eq_add_neg]
theorem nI_inj {a b : Nat} (ha : a < 2 ^ 31) (hb : b < 2 ^ 31) (h : nI a = nI b) : a = b := (nI_eq ha hb).mp h
