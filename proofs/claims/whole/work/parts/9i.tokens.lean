/-! the pure tokens; the class's Tokens.extend -/
def tk_w (tc : Nat → Nat) (a : Nat) : Nat → Nat
  | 0 => 0
  | k + 1 => tk_w tc a k * 27 + (tc (a + k) - 96)
def tk_x (tc : Nat → Nat) (a : Nat) : Nat → Nat
  | 0 => 0
  | k + 1 => tk_x tc a k * 32 + (tc (a + k) - 96)
def tk_d (tc : Nat → Nat) (a : Nat) : Nat → Nat
  | 0 => 0
  | k + 1 => min (tk_d tc a k * 10 + (tc (a + k) - 48)) 100
abbrev tk_T : Type := Nat × Nat × Nat × Nat
def tk_at1 (tc : Nat → Nat) (n b : Nat) : tk_T :=
  if tk_lt (tc b) = true then (if tk_e tc tk_lt n b - b ≤ 6 then 1 else 3, b, tk_e tc tk_lt n b, tk_w tc b (min 6 (tk_e tc tk_lt n b - b)))
  else if tk_dg (tc b) = true then (2, b, tk_e tc tk_dg n b, tk_d tc b (tk_e tc tk_dg n b - b))
  else (tk_k (tc b), b, b + 1, 0)
def tk_at (tc : Nat → Nat) (n a : Nat) : tk_T := if tk_e tc tk_bl n a < n then tk_at1 tc n (tk_e tc tk_bl n a) else (0, n, n, 0)
/-- the tokens of a text, one behind another; behind its end there is no other -/
def tk_s (tc : Nat → Nat) (n : Nat) : Nat → tk_T
  | 0 => tk_at tc n 0
  | i + 1 => tk_at tc n (tk_s tc n i).2.2.1
section TOK
variable {tc : Nat → Nat} {n : Nat}
theorem tk_at_bl {a : Nat} (h : a < n) (hb : tk_bl (tc a) = true) : tk_at tc n a = tk_at tc n (a + 1) := by
  unfold tk_at; rw [tk_e_step h hb]
theorem tk_at_nb {a : Nat} (h : a < n) (hb : tk_bl (tc a) = false) : tk_at tc n a = tk_at1 tc n a := by
  unfold tk_at
  rw [tk_e_stop (fun z => by rw [hb] at z; exact absurd z.2 (by decide)), if_pos h]
theorem tk_at_end : tk_at tc n n = (0, n, n, 0) := by
  unfold tk_at
  rw [tk_e_stop (fun z => absurd z.1 (Nat.lt_irrefl n)), if_neg (Nat.lt_irrefl n)]
theorem tk_e_run {p : Nat → Bool} {a : Nat} (hs : ¬ (a < n ∧ p (tc a) = true)) (ha : a ≤ n) : ∀ (j b : Nat), b + j = a → (∀ i, b ≤ i → i < a → p (tc i) = true) → tk_e tc p n b = a := by
  intro j
  induction j with
  | zero => intro b hb _; rw [show b = a by omega]; exact tk_e_stop hs
  | succ j ih => intro b hb hp; rw [tk_e_step (by omega) (hp b (Nat.le_refl _) (by omega))]; exact ih (b + 1) (by omega) (fun i h1 h2 => hp i (by omega) h2)
theorem tk_w_lt (b : Nat) : ∀ k, (∀ i, i < k → tk_lt (tc (b + i)) = true) → tk_w tc b k + 1 ≤ 27 ^ k := by
  intro k
  induction k with
  | zero => intro _; exact Nat.le_refl _
  | succ k ih =>
    intro h
    have h1 := ih (fun i hi => h i (by omega))
    have h2 := h k (by omega)
    unfold tk_lt at h2
    have h3 := of_decide_eq_true h2
    show tk_w tc b k * 27 + (tc (b + k) - 96) + 1 ≤ 27 ^ (k + 1)
    rw [Nat.pow_succ]
    omega
theorem tk_w_6 {b k : Nat} (hk : k ≤ 6) (h : ∀ i, i < k → tk_lt (tc (b + i)) = true) : tk_w tc b k < 387420489 := by
  have h1 := tk_w_lt b k h
  have h2 : 27 ^ k ≤ 27 ^ 6 := Nat.pow_le_pow_right (by decide) hk
  have h3 : (27 : Nat) ^ 6 = 387420489 := by decide
  omega
theorem tk_d_le (b : Nat) : ∀ k, tk_d tc b k ≤ 100
  | 0 => Nat.zero_le _
  | k + 1 => Nat.min_le_right _ _
end TOK
section EXT
variable {d t : Nat} {σ : am_St}
theorem sp_7_extend_d {c x : Nat} (h0 : am_I σ 3 0 = nI (t + 1)) (ht : t ≤ 900) (hk : am_A σ 3 1 t = 2) (hx : am_A σ 3 3 t = nI x) (hx2 : x ≤ 100) (hc1 : 48 ≤ c) (hc2 : c < 256) (pl : Int32) : am_C false ya_7_extend (d + 1) [.ref (am_oid 3), .int (nI c), .int pl] σ (fun r τ => r = none ∧ τ = am_sA σ 3 3 (upd (am_A σ 3 3) t (nI (min (x * 10 + (c - 48)) 100)))) := by
  have v : vp_in (nI t) 901 := vp_in_nI (by omega) (by omega)
  have et : am_I σ 3 0 - 1 = nI t := by rw [h0, nI_pred]
  have cl : (nI t).toNatClampNeg = t := nI_clamp (by omega)
  refine am_enter rfl (by simp [Value.category]) (Nat.le_of_ble_eq_true rfl) ?_
  refine kb_7_extend_0 (kf := fun z => absurd (by rw [et]; exact nI_pos' (by omega)) z) (kt := fun _ => ?_)
  rw [et]
  refine kb_7_extend_12 (hi0 := v) (kt := fun z => absurd (by rw [cl]; exact hk) z) (kf := fun _ => ?_)
  refine kb_7_extend_22 (hi0 := v) (hi1 := v) (k := kb_7_extend_95 (hq := ⟨rfl, ?_⟩))
  have e : (am_A σ 3 3 t * 10 + nI c) - 48 = nI (x * 10 + (c - 48)) := by
    rw [hx, show (10 : Int32) = nI 10 from rfl, nI_mul, nI_add, show (48 : Int32) = nI 48 from rfl, nI_sub (by omega)]
    congr 1; omega
  have e2 : (if (100 : Int32) < nI (x * 10 + (c - 48)) then 100 else nI (x * 10 + (c - 48))) = nI (min (x * 10 + (c - 48)) 100) := by
    by_cases q : 100 < x * 10 + (c - 48)
    · rw [if_pos (by rw [nI_100]; exact nI_lt q (by omega)), Nat.min_eq_right (by omega)]; rfl
    · rw [if_neg (by rw [nI_100]; exact nI_nlt (by omega) (by omega)), Nat.min_eq_left (by omega)]
  rw [cl, e, e2]
theorem sp_7_extend_w {c x a b : Nat} (h0 : am_I σ 3 0 = nI (t + 1)) (ht : t ≤ 900) (hk : ¬ am_A σ 3 1 t = 2) (hx : am_A σ 3 3 t = nI x) (hp : am_A σ 3 2 t = nI b) (hb : b ≤ a) (ha : a < 1000) (hc1 : 97 ≤ c) : am_C false ya_7_extend (d + 1) [.ref (am_oid 3), .int (nI c), .int (nI a)] σ (fun r τ => r = none ∧ τ = if a - b < 6 then am_sA σ 3 3 (upd (am_A σ 3 3) t (nI (x * 27 + (c - 96)))) else am_sA σ 3 1 (upd (am_A σ 3 1) t 3)) := by
  have v : vp_in (nI t) 901 := vp_in_nI (by omega) (by omega)
  have et : am_I σ 3 0 - 1 = nI t := by rw [h0, nI_pred]
  have cl : (nI t).toNatClampNeg = t := nI_clamp (by omega)
  refine am_enter rfl (by simp [Value.category]) (Nat.le_of_ble_eq_true rfl) ?_
  refine kb_7_extend_0 (kf := fun z => absurd (by rw [et]; exact nI_pos' (by omega)) z) (kt := fun _ => ?_)
  rw [et]
  refine kb_7_extend_12 (hi0 := v) (kf := fun z => absurd (by rw [cl] at z; exact z) hk) (kt := fun _ => ?_)
  have es : nI a - am_A σ 3 2 (nI t).toNatClampNeg = nI (a - b) := by rw [cl, hp, nI_sub hb]
  by_cases q : a - b < 6
  · rw [if_pos q]
    refine kb_7_extend_50 (hi0 := v) (kt := fun z => absurd z (by rw [es, show (6 : Int32) = nI 6 from rfl]; exact nI_ge q (by omega))) (kf := fun _ => ?_)
    refine kb_7_extend_63 (hi0 := v) (hi1 := v) (k := kb_7_extend_95 (hq := ⟨rfl, ?_⟩))
    have e : ((am_A σ 3 3 t * 27 + nI c) - 97) + 1 = nI (x * 27 + (c - 96)) := by
      rw [hx, show (27 : Int32) = nI 27 from rfl, nI_mul, nI_add, show (97 : Int32) = nI 97 from rfl, nI_sub (by omega), nI_1]
      congr 1; omega
    rw [cl, e]
  · rw [if_neg q]
    refine kb_7_extend_50 (hi0 := v) (kf := fun z => absurd (by rw [es, show (6 : Int32) = nI 6 from rfl]; exact nI_le (by omega) (by omega)) z) (kt := fun _ => ?_)
    refine kb_7_extend_88 (hi0 := v) (k := kb_7_extend_95 (hq := ⟨rfl, ?_⟩))
    rw [cl]
end EXT
