/-! numbers -/
theorem nI_lt31 {a b : Nat} (ha : a < 2 ^ 31) (hb : b < 2 ^ 31) : (nI a < nI b) = (a < b) := propext (nI_ltI ha hb)
theorem nI_le31 {a b : Nat} (ha : a < 2 ^ 31) (hb : b < 2 ^ 31) : (nI a ≤ nI b) = (a ≤ b) := propext (nI_leI ha hb)
/-- how many of the first n are so -/
def am_cn (P : Nat → Bool) : Nat → Nat
  | 0 => 0
  | n + 1 => am_cn P n + (if P n then 1 else 0)
theorem am_cn_le (P : Nat → Bool) (n : Nat) : am_cn P n ≤ n := by
  induction n with
  | zero => exact Nat.le_refl _
  | succ n ih => unfold am_cn; split <;> omega
/-- Arrays.fill -/
def am_fill (n : Nat) (v : Int32) (f : Nat → Int32) : Nat → Int32 := fun i => if i < n then v else f i
theorem sp_fill (sd : Bool) (d o k c n : Nat) (v : Int32) (σ : am_St) (hk : am_k sd o = c) (hc : c < 12) (hf : am_fk c k = (3, 0, n)) (hn : n < 2 ^ 31) : am_C sd ya_99_fill d [.ref (am_aid o k), .int v] σ (fun r τ => r = none ∧ τ = am_sA σ o k (am_fill n v (am_A σ o k))) := by
  have loop : ∀ j i : Nat, i + j = n → ∀ τ : am_St, τ = am_sA σ o k (am_fill i v (am_A σ o k)) → am_T sd ya_99_fill d (fun r τ => r = none ∧ τ = am_sA σ o k (am_fill n v (am_A σ o k))) 5 [some (.ref (am_aid o k)), some (.int v), some (.int (nI i)), some (.int (Int32.ofNat n))] [] τ := by
    intro j
    induction j with
    | zero =>
      intro i hi τ hτ
      refine kb_99_fill_5 (fun h => kb_99_fill_20 ⟨rfl, ?_⟩) (fun h => absurd ?_ h)
      · rw [hτ, ← hi]; rfl
      · exact nI_le (by omega) (by omega)
    | succ j ih =>
      intro i hi τ hτ
      refine kb_99_fill_5 (fun h => absurd h ?_) (fun h => kb_99_fill_10 (hi0 := ?_) (k := ?_))
      · exact nI_ge (by omega) (by omega)
      · exact vp_in_nI (by omega) (by omega)
      · rw [nI_1, nI_clamp (by omega)]
        refine ih (i + 1) (by omega) _ ?_
        subst hτ
        unfold am_sA am_A
        refine Prod.ext rfl (Prod.ext ?_ rfl)
        funext o' k'
        dsimp only
        split
        · rename_i h2
          funext q
          obtain ⟨rfl, rfl⟩ := h2
          simp only [upd, am_fill, and_self, if_true]
          by_cases e1 : q = i
          · subst e1; simp
          · simp only [if_neg e1]
            by_cases e2 : q < i
            · simp [e2, Nat.lt_succ_of_lt e2]
            · rw [if_neg e2, if_neg (by omega)]
        · rfl
  refine am_enter rfl (by simp [Value.category]) (Nat.le_of_ble_eq_true rfl) (kb_99_fill_0 (k := ?_))
  refine loop n 0 (by omega) σ ?_
  have : am_fill 0 v (am_A σ o k) = am_A σ o k := by funext q; simp [am_fill]
  rw [this]
  unfold am_sA am_A
  refine Prod.ext rfl (Prod.ext ?_ rfl)
  funext o' k'
  dsimp only
  split
  · rename_i h2; obtain ⟨rfl, rfl⟩ := h2; rfl
  · rfl
/-- Samples.pairsFrom -/
theorem sp_5_pairsFrom (d o n : Nat) (x : Int32) (σ : am_St) (ho : am_k false o = 5) (hn : am_I σ o 1 = nI n) (hb : n ≤ 300) : am_C false ya_5_pairsFrom d [.ref (am_oid o), .int x] σ (fun r τ => r = some (.int (nI (am_cn (fun q => am_A σ o 4 q == x) n))) ∧ τ = σ) := by
  have loop : ∀ j i : Nat, i + j = n → am_T false ya_5_pairsFrom d (fun r τ => r = some (.int (nI (am_cn (fun q => am_A σ o 4 q == x) n))) ∧ τ = σ) 4 [some (.ref (am_oid o)), some (.int x), some (.int (nI (am_cn (fun q => am_A σ o 4 q == x) i))), some (.int (nI i))] [] σ := by
    intro j
    induction j with
    | zero =>
      intro i hi
      refine kb_5_pairsFrom_4 (kt := fun h => kb_5_pairsFrom_31 ⟨?_, rfl⟩) (kf := fun h => absurd ?_ h)
      · rw [← hi]; rfl
      · rw [hn]; exact nI_le (by omega) (by omega)
    | succ j ih =>
      intro i hi
      refine kb_5_pairsFrom_4 (kt := fun h => absurd h ?_) (kf := fun h => kb_5_pairsFrom_12 (hi0 := vp_in_nI (by omega) (by omega)) (kt := fun h => kb_5_pairsFrom_25 (k := ?_)) (kf := fun h => kb_5_pairsFrom_22 (k := kb_5_pairsFrom_25 (k := ?_))))
      · rw [hn]; exact nI_ge (by omega) (by omega)
      · have := ih (i + 1) (by omega)
        rw [nI_clamp (by omega)] at h
        rw [am_cn, if_neg (by simpa using h)] at this
        rw [nI_1]; exact this
      · have := ih (i + 1) (by omega)
        rw [nI_clamp (by omega)] at h
        rw [am_cn, if_pos (by simpa using h), ← nI_1, ← nI_1] at this
        exact this
  exact am_enter rfl (by simp [Value.category]) (Nat.le_of_ble_eq_true rfl) (kb_5_pairsFrom_0 (k := loop n 0 (by omega)))
