/-! letters, digits, marks, blanks: the class's kindOf; the reference's here, isSmall, isDigit, isMark -/
def tk_lt (c : Nat) : Bool := decide (97 ≤ c ∧ c ≤ 122)
def tk_dg (c : Nat) : Bool := decide (48 ≤ c ∧ c ≤ 57)
def tk_mk (c : Nat) : Bool := decide (c = 59 ∨ c = 60 ∨ c = 61 ∨ c = 62 ∨ c = 43 ∨ c = 45 ∨ c = 42)
def tk_bl (c : Nat) : Bool := decide (c = 10 ∨ c = 32)
def tk_k (c : Nat) : Nat := if tk_lt c = true then 1 else if tk_dg c = true then 2 else if tk_bl c = true then 4 else if tk_mk c = true then c else 3
theorem tk_lti {c m : Nat} (hc : c < 256) (hm : m < 256) : (nI c < nI m) = (c < m) := by
  rw [Int32.lt_iff_toInt_lt, nI_toInt (by omega), nI_toInt (by omega)]
  exact propext ⟨fun z => by omega, fun z => by omega⟩
theorem tk_eqi {c m : Nat} (hc : c < 256) (hm : m < 256) : (nI c = nI m) = (c = m) := propext ⟨fun z => nI_inj (by omega) (by omega) z, fun z => by rw [z]⟩
section KINDS
variable {d : Nat} {σ : am_St}
theorem sp_7_kindOf {c : Nat} (hc : c < 256) : am_C false ya_7_kindOf d [.int (nI c)] σ (fun r τ => τ = σ ∧ r = some (.int (nI (tk_k c)))) := by
  refine am_enter rfl (by simp [Value.category]) (Nat.le_of_ble_eq_true rfl) ?_
  have e97 : (97 : Int32) = nI 97 := rfl
  have e122 : (122 : Int32) = nI 122 := rfl
  have e48 : (48 : Int32) = nI 48 := rfl
  have e57 : (57 : Int32) = nI 57 := rfl
  have rest : tk_lt c = false → tk_dg c = false → am_T false ya_7_kindOf d (fun r τ => τ = σ ∧ r = some (.int (nI (tk_k c)))) 28 [some (.int (nI c))] [] σ := fun h1 h2 => by
    have eK : tk_k c = if tk_bl c = true then 4 else if tk_mk c = true then c else 3 := by unfold tk_k; rw [h1, h2]; rfl
    have at_ : ∀ m, m < 256 → nI c = nI m → c = m := fun m hm z => nI_inj (by omega) (by omega) z
    have mk : ∀ m, m < 256 → nI c = nI m → tk_bl m = false → tk_mk m = true → am_T false ya_7_kindOf d (fun r τ => τ = σ ∧ r = some (.int (nI (tk_k c)))) 114 [some (.int (nI c))] [] σ := fun m hm z b1 b2 => by
      have e := at_ m hm z
      refine kb_7_kindOf_114 ⟨rfl, ?_⟩
      rw [eK, e, b1, b2]; rfl
    have bl : ∀ m, m < 256 → nI c = nI m → tk_bl m = true → am_T false ya_7_kindOf d (fun r τ => τ = σ ∧ r = some (.int (nI (tk_k c)))) 112 [some (.int (nI c))] [] σ := fun m hm z b1 => by
      have e := at_ m hm z
      refine kb_7_kindOf_112 ⟨rfl, ?_⟩
      rw [eK, e, b1]; rfl
    refine kb_7_kindOf_28 (k0 := fun z => bl 10 (by decide) z (by decide)) (k1 := fun z => bl 32 (by decide) z (by decide)) (k2 := fun z => mk 42 (by decide) z (by decide) (by decide)) (k3 := fun z => mk 43 (by decide) z (by decide) (by decide)) (k4 := fun z => mk 45 (by decide) z (by decide) (by decide)) (k5 := fun z => mk 59 (by decide) z (by decide) (by decide)) (k6 := fun z => mk 60 (by decide) z (by decide) (by decide)) (k7 := fun z => mk 61 (by decide) z (by decide) (by decide)) (k8 := fun z => mk 62 (by decide) z (by decide) (by decide)) (kd := fun z => kb_7_kindOf_116 ⟨rfl, ?_⟩)
    obtain ⟨z1, z2, z3, z4, z5, z6, z7, z8, z9⟩ := z
    have ne : ∀ m, ¬ nI c = nI m → c ≠ m := fun m h e => h (by rw [e])
    have b1 : tk_bl c = false := by
      unfold tk_bl
      exact decide_eq_false (fun q => by
        rcases q with q | q
        · exact ne 10 z1 q
        · exact ne 32 z2 q)
    have b2 : tk_mk c = false := by
      unfold tk_mk
      exact decide_eq_false (fun q => by
        rcases q with q | q | q | q | q | q | q
        · exact ne 59 z6 q
        · exact ne 60 z7 q
        · exact ne 61 z8 q
        · exact ne 62 z9 q
        · exact ne 43 z4 q
        · exact ne 45 z5 q
        · exact ne 42 z3 q)
    rw [eK, b1, b2]; rfl
  have dig : tk_lt c = false → am_T false ya_7_kindOf d (fun r τ => τ = σ ∧ r = some (.int (nI (tk_k c)))) 14 [some (.int (nI c))] [] σ := fun h1 => by
    refine kb_7_kindOf_14 (kt := fun z => rest h1 ?_) (kf := fun z => ?_)
    · rw [e48, tk_lti hc (by decide)] at z
      unfold tk_dg; exact decide_eq_false (by omega)
    rw [e48, tk_lti hc (by decide)] at z
    refine kb_7_kindOf_20 (kt := fun w => rest h1 ?_) (kf := fun w => kb_7_kindOf_26 ⟨rfl, ?_⟩)
    · rw [e57, tk_lti (by decide) hc] at w
      unfold tk_dg; exact decide_eq_false (by omega)
    · rw [e57, tk_lti (by decide) hc] at w
      have h2 : tk_dg c = true := by unfold tk_dg; exact decide_eq_true (by omega)
      unfold tk_k; rw [h1, h2]; rfl
  refine kb_7_kindOf_0 (kt := fun z => dig ?_) (kf := fun z => ?_)
  · rw [e97, tk_lti hc (by decide)] at z
    unfold tk_lt; exact decide_eq_false (by omega)
  rw [e97, tk_lti hc (by decide)] at z
  refine kb_7_kindOf_6 (kt := fun w => dig ?_) (kf := fun w => kb_7_kindOf_12 ⟨rfl, ?_⟩)
  · rw [e122, tk_lti (by decide) hc] at w
    unfold tk_lt; exact decide_eq_false (by omega)
  · rw [e122, tk_lti (by decide) hc] at w
    have h1 : tk_lt c = true := by unfold tk_lt; exact decide_eq_true (by omega)
    unfold tk_k; rw [h1]; rfl
/-! the reference -/
theorem sp_11_here {n a : Nat} {tc : Nat → Nat} (h6 : am_I σ 16 6 = nI n) (h7 : am_I σ 16 7 = nI a) (hn : n ≤ 900) (ha : a ≤ n) (ht : ∀ i, i < n → am_A σ 16 1 i = nI (tc i)) : am_C true ya_11_here d [.ref (am_oid 16)] σ (fun r τ => τ = σ ∧ r = some (.int (if a < n then nI (tc a) else -1))) := by
  refine am_enter rfl (by simp [Value.category]) (Nat.le_of_ble_eq_true rfl) ?_
  by_cases c : a < n
  · rw [if_pos c]
    refine kb_11_here_0 (kt := fun z => absurd z (by rw [h6, h7]; exact nI_ge c (by omega))) (kf := fun _ => kb_11_here_11 (hi0 := by rw [h7]; exact vp_in_nI (by omega) (by omega)) (k := kb_11_here_24 ⟨rfl, ?_⟩))
    rw [h7, nI_clamp (show a < 2 ^ 31 by omega), ht a c]
  · rw [if_neg c]
    exact kb_11_here_0 (kt := fun _ => kb_11_here_23 (k := kb_11_here_24 ⟨rfl, rfl⟩)) (kf := fun z => absurd (by rw [h6, h7]; exact nI_le (by omega) (by omega)) z)
theorem sp_11_isSmall {c : Nat} (hc : c < 256) : am_C true ya_11_isSmall d [.int (nI c)] σ (fun r τ => τ = σ ∧ r = some (.int (am_bI (tk_lt c)))) := by
  have e97 : (97 : Int32) = nI 97 := rfl
  have e122 : (122 : Int32) = nI 122 := rfl
  refine am_enter rfl (by simp [Value.category]) (Nat.le_of_ble_eq_true rfl) ?_
  have no : tk_lt c = false → am_T true ya_11_isSmall d (fun r τ => τ = σ ∧ r = some (.int (am_bI (tk_lt c)))) 16 [some (.int (nI c))] [] σ := fun h => by
    rw [h]; exact kb_11_isSmall_16 (k := kb_11_isSmall_17 (hb0 := rfl) (hq := ⟨rfl, rfl⟩))
  refine kb_11_isSmall_0 (kt := fun z => no ?_) (kf := fun z => ?_)
  · rw [e97, tk_lti hc (by decide)] at z
    unfold tk_lt; exact decide_eq_false (by omega)
  rw [e97, tk_lti hc (by decide)] at z
  refine kb_11_isSmall_6 (kt := fun w => no ?_) (kf := fun w => ?_)
  · rw [e122, tk_lti (by decide) hc] at w
    unfold tk_lt; exact decide_eq_false (by omega)
  · rw [e122, tk_lti (by decide) hc] at w
    have h1 : tk_lt c = true := by unfold tk_lt; exact decide_eq_true (by omega)
    rw [h1]; exact kb_11_isSmall_12 (k := kb_11_isSmall_17 (hb0 := rfl) (hq := ⟨rfl, rfl⟩))
theorem sp_11_isSmall_e : am_C true ya_11_isSmall d [.int (-1)] σ (fun r τ => τ = σ ∧ r = some (.int 0)) :=
  am_enter rfl (by simp [Value.category]) (Nat.le_of_ble_eq_true rfl) (kb_11_isSmall_0 (kt := fun _ => kb_11_isSmall_16 (k := kb_11_isSmall_17 (hb0 := rfl) (hq := ⟨rfl, rfl⟩))) (kf := fun z => absurd (show (-1 : Int32) < 97 by decide) z))
theorem sp_11_isDigit {c : Nat} (hc : c < 256) : am_C true ya_11_isDigit d [.int (nI c)] σ (fun r τ => τ = σ ∧ r = some (.int (am_bI (tk_dg c)))) := by
  have e48 : (48 : Int32) = nI 48 := rfl
  have e57 : (57 : Int32) = nI 57 := rfl
  refine am_enter rfl (by simp [Value.category]) (Nat.le_of_ble_eq_true rfl) ?_
  have no : tk_dg c = false → am_T true ya_11_isDigit d (fun r τ => τ = σ ∧ r = some (.int (am_bI (tk_dg c)))) 16 [some (.int (nI c))] [] σ := fun h => by
    rw [h]; exact kb_11_isDigit_16 (k := kb_11_isDigit_17 (hb0 := rfl) (hq := ⟨rfl, rfl⟩))
  refine kb_11_isDigit_0 (kt := fun z => no ?_) (kf := fun z => ?_)
  · rw [e48, tk_lti hc (by decide)] at z
    unfold tk_dg; exact decide_eq_false (by omega)
  rw [e48, tk_lti hc (by decide)] at z
  refine kb_11_isDigit_6 (kt := fun w => no ?_) (kf := fun w => ?_)
  · rw [e57, tk_lti (by decide) hc] at w
    unfold tk_dg; exact decide_eq_false (by omega)
  · rw [e57, tk_lti (by decide) hc] at w
    have h1 : tk_dg c = true := by unfold tk_dg; exact decide_eq_true (by omega)
    rw [h1]; exact kb_11_isDigit_12 (k := kb_11_isDigit_17 (hb0 := rfl) (hq := ⟨rfl, rfl⟩))
theorem sp_11_isDigit_e : am_C true ya_11_isDigit d [.int (-1)] σ (fun r τ => τ = σ ∧ r = some (.int 0)) :=
  am_enter rfl (by simp [Value.category]) (Nat.le_of_ble_eq_true rfl) (kb_11_isDigit_0 (kt := fun _ => kb_11_isDigit_16 (k := kb_11_isDigit_17 (hb0 := rfl) (hq := ⟨rfl, rfl⟩))) (kf := fun z => absurd (show (-1 : Int32) < 48 by decide) z))
end KINDS
