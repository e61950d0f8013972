/-! which test costs least -/
def ft_bst (al : Nat → Bool) (cost : Nat → Option Nat) : Nat → Option (Nat × Nat)
  | 0 => none
  | n + 1 => match (if al n = true then cost n else none) with
    | none => ft_bst al cost n
    | some c => match ft_bst al cost n with
      | none => some (n, c)
      | some (t, c') => if c < c' then some (n, c) else some (t, c')
theorem ft_bst_spec (al : Nat → Bool) (cost : Nat → Option Nat) (n : Nat) {t c : Nat} (h : ft_bst al cost n = some (t, c)) : t < n ∧ al t = true ∧ cost t = some c := by
  induction n with
  | zero => cases h
  | succ n ih =>
    unfold ft_bst at h
    split at h
    · obtain ⟨h1, h2, h3⟩ := ih h
      exact ⟨by omega, h2, h3⟩
    · rename_i c0 hc0
      have hal : al n = true ∧ cost n = some c0 := by
        by_cases e : al n = true
        · rw [if_pos e] at hc0; exact ⟨e, hc0⟩
        · rw [if_neg e] at hc0; cases hc0
      split at h
      · injection h with h; injection h with h1 h2
        subst h1; subst h2
        exact ⟨by omega, hal.1, hal.2⟩
      · rename_i t' c' hb
        split at h
        · injection h with h; injection h with h1 h2
          subst h1; subst h2
          exact ⟨by omega, hal.1, hal.2⟩
        · obtain ⟨h1, h2, h3⟩ := ih (hb.trans h)
          exact ⟨by omega, h2, h3⟩
def ft_oI (x : Option (Nat × Nat)) : Int32 := match x with
  | none => -1
  | some p => nI p.1
theorem sp_0_cheapest {d o P q u v pu pv T : Nat} {tm : Int32} {st td fs sn : Nat → Nat} {S g b : Nat → Bool} {σ : am_St} (hS : am_Sm σ o P q st td fs sn) (hN : ft_Nd σ u v pu pv P q fs sn S) (hL : ft_Lb σ P g b) (hT : am_I σ 4 4 = nI T) (hT2 : T ≤ 16) :
    am_C false ya_0_cheapest (d + 1) [.ref (am_oid 5), .ref (am_oid o), .int tm] σ (fun r τ => τ = σ ∧ r = some (.int (ft_oI (ft_bst (fun t => bt tm t) (fun t => ft_cost P q fs sn S g b (fun i => bt (am_A σ 5 2 i) t)) T)))) := by
  obtain ⟨cost, hcost⟩ : ∃ cost : Nat → Option Nat, cost = fun t => ft_cost P q fs sn S g b (fun i => bt (am_A σ 5 2 i) t) := ⟨_, rfl⟩
  rw [← hcost]
  generalize hQ : (fun (r : Option Value) (τ : am_St) => τ = σ ∧ r = some (.int (ft_oI (ft_bst (fun t => bt tm t) cost T)))) = Q
  have hlt : ∀ t c, cost t = some c → c < 400000 := fun t c h => ft_cost_lt hS.2.1 hS.2.2.1 (by rw [hcost] at h; exact h)
  have loop : ∀ (j i : Nat), i + j = T → ∀ (x4 : Int32) (a6 : Option Value), (∀ t c, ft_bst (fun t => bt tm t) cost i = some (t, c) → x4 = nI c) → am_T false ya_0_cheapest (d + 1) Q 8 [some (.ref (am_oid 5)), some (.ref (am_oid o)), some (.int tm), some (.int (ft_oI (ft_bst (fun t => bt tm t) cost i))), some (.int x4), some (.int (nI i)), a6] [] σ := by
    intro j
    induction j with
    | zero =>
      intro i hi x4 a6 hx
      have : i = T := by omega
      subst this
      refine kb_0_cheapest_8 (kt := fun _ => kb_0_cheapest_68 ?_) (kf := fun c => absurd ?_ c)
      · rw [← hQ]; exact ⟨rfl, rfl⟩
      · rw [hT]; exact nI_le (Nat.le_refl _) (by omega)
    | succ j ih =>
      intro i hi x4 a6 hx
      -- the next round with the same best
      have keep : (if bt tm i = true then cost i else none) = none → ∀ (a6 : Option Value), am_T false ya_0_cheapest (d + 1) Q 62 [some (.ref (am_oid 5)), some (.ref (am_oid o)), some (.int tm), some (.int (ft_oI (ft_bst (fun t => bt tm t) cost i))), some (.int x4), some (.int (nI i)), a6] [] σ := by
        intro hn a6
        refine kb_0_cheapest_62 (k := ?_)
        rw [nI_1]
        have e : ft_bst (fun t => bt tm t) cost (i + 1) = ft_bst (fun t => bt tm t) cost i := by
          show (match (if bt tm i = true then cost i else none) with | none => ft_bst (fun t => bt tm t) cost i | some c => _) = _
          rw [hn]
        have := ih (i + 1) (by omega) x4 a6 (by rw [e]; exact hx)
        rw [e] at this
        exact this
      refine kb_0_cheapest_8 (kt := fun c => absurd c ?_) (kf := fun _ => ?_)
      · rw [hT]; exact nI_ge (by omega) (by omega)
      · refine kb_0_cheapest_20 (kt := fun c => ?_) (kf := fun c => ?_)
        · rw [am_sh1_1 _ (by omega)] at c
          exact keep (by rw [if_neg c]) _
        · rw [am_sh1_1 _ (by omega)] at c
          refine kb_0_cheapest_30 (hC := sp_0_costOf (t := i) hS (by omega) hN hL) (k := fun r τ hr => ?_)
          obtain ⟨rfl, rfl⟩ := hr
          have ec : ft_cost P q fs sn S g b (fun z => bt (am_A τ 5 2 z) i) = cost i := by rw [hcost]
          rw [ec]
          cases hc : cost i with
          | none =>
            refine kb_0_cheapest_37 (kt := fun _ => keep (by rw [if_pos c]; exact hc) _) (kf := fun z => absurd am_neg2 z)
          | some cc =>
            have hcc := hlt i cc hc
            have hif : (if bt tm i = true then cost i else none) = some cc := by rw [if_pos c]; exact hc
            refine kb_0_cheapest_37 (kt := fun z => absurd z (nI_pos (by omega))) (kf := fun _ => ?_)
            cases hb : ft_bst (fun t => bt tm t) cost i with
            | none =>
              have e : ft_bst (fun t => bt tm t) cost (i + 1) = some (i, cc) := by
                show (match (if bt tm i = true then cost i else none) with | none => ft_bst (fun t => bt tm t) cost i | some c => match ft_bst (fun t => bt tm t) cost i with | none => some (i, c) | some (t, c') => if c < c' then some (i, c) else some (t, c')) = _
                rw [hif, hb]
              refine kb_0_cheapest_44 (kt := fun _ => ?_) (kf := fun z => absurd am_neg1 z)
              refine kb_0_cheapest_55 (k := kb_0_cheapest_62 (k := ?_))
              rw [nI_1]
              have := ih (i + 1) (by omega) (nI cc) (some (.int (nI cc))) (fun t c' h => by rw [e] at h; injection h with h; injection h with h1 h2; rw [h2])
              rw [e] at this
              exact this
            | some p =>
              obtain ⟨t, c'⟩ := p
              have hx4 := hx t c' hb
              have htl := ft_bst_spec _ _ _ hb
              have hc' := hlt t c' htl.2.2
              have e : ft_bst (fun t => bt tm t) cost (i + 1) = if cc < c' then some (i, cc) else some (t, c') := by
                show (match (if bt tm i = true then cost i else none) with | none => ft_bst (fun t => bt tm t) cost i | some c => match ft_bst (fun t => bt tm t) cost i with | none => some (i, c) | some (t, c') => if c < c' then some (i, c) else some (t, c')) = _
                rw [hif, hb]
              refine kb_0_cheapest_44 (kt := fun z => absurd z (nI_pos (by omega))) (kf := fun _ => ?_)
              refine kb_0_cheapest_48 (kt := fun z => ?_) (kf := fun z => ?_)
              · rw [hx4, nI_leI (by omega) (by omega)] at z
                refine kb_0_cheapest_62 (k := ?_)
                rw [nI_1]
                rw [if_neg (by omega)] at e
                have := ih (i + 1) (by omega) x4 (some (.int (nI cc))) (fun t2 c2 h => by rw [e] at h; injection h with h; injection h with h1 h2; rw [hx4, h2])
                rw [e] at this
                exact this
              · rw [hx4, nI_leI (by omega) (by omega)] at z
                refine kb_0_cheapest_55 (k := kb_0_cheapest_62 (k := ?_))
                rw [nI_1]
                rw [if_pos (by omega)] at e
                have := ih (i + 1) (by omega) (nI cc) (some (.int (nI cc))) (fun t2 c2 h => by rw [e] at h; injection h with h; injection h with h1 h2; rw [h2])
                rw [e] at this
                exact this
  refine am_enter rfl (by simp [Value.category]) (Nat.le_of_ble_eq_true rfl) (kb_0_cheapest_0 (k := ?_))
  exact loop T 0 (by omega) 0 _ (fun t c h => by cases h)
/-! the stack of pending nodes -/
def ft_It (f : Nat → Int32) (h : Nat) (x0 x1 x2 x3 x4 x5 : Int32) : Prop := f (6 * h) = x0 ∧ f (6 * h + 1) = x1 ∧ f (6 * h + 2) = x2 ∧ f (6 * h + 3) = x3 ∧ f (6 * h + 4) = x4 ∧ f (6 * h + 5) = x5
theorem sp_0_push {d h : Nat} {x1 : Int32} {sd : Bool} {σ : am_St} (hh : am_I σ 5 6 = nI h) (hh2 : h < 20) : am_C false ya_0_push d [.ref (am_oid 5), .int x1, .int (am_bI sd)] σ (fun r τ => r = none ∧ ∃ f : Nat → Int32, τ = am_sI (am_sA σ 5 5 f) 5 6 (nI (h + 1)) ∧ ft_It f h (am_I σ 5 7) (am_I σ 5 8) (am_I σ 5 9) (am_I σ 5 10) x1 (am_bI sd) ∧ ∀ j, j < 6 * h → f j = am_A σ 5 5 j) := by
  have e20 : (20 : Int32) = nI 20 := by decide
  have e6 : nI h * 6 = nI (6 * h) := by rw [show (6 : Int32) = nI 6 from rfl, nI_mul, Nat.mul_comm]
  have ek : ∀ k : Nat, nI (6 * h) + nI k = nI (6 * h + k) := fun k => nI_add _ _
  have c : ∀ k : Nat, k < 6 → (nI (6 * h + k)).toNatClampNeg = 6 * h + k := fun k hk => nI_clamp (by omega)
  have w : ∀ k : Nat, k < 6 → vp_in (nI (6 * h + k)) 120 := fun k hk => vp_in_nI (by omega) (by omega)
  have q0 : am_I σ 5 6 * 6 = nI (6 * h + 0) := by rw [hh, e6]; rfl
  have q1 : am_I σ 5 6 * 6 + 1 = nI (6 * h + 1) := by rw [hh, e6]; exact ek 1
  have q2 : am_I σ 5 6 * 6 + 2 = nI (6 * h + 2) := by rw [hh, e6]; exact ek 2
  have q3 : am_I σ 5 6 * 6 + 3 = nI (6 * h + 3) := by rw [hh, e6]; exact ek 3
  have q4 : am_I σ 5 6 * 6 + 4 = nI (6 * h + 4) := by rw [hh, e6]; exact ek 4
  have q5 : am_I σ 5 6 * 6 + 5 = nI (6 * h + 5) := by rw [hh, e6]; exact ek 5
  refine am_enter rfl (by simp [Value.category]) (Nat.le_of_ble_eq_true rfl) ?_
  refine kb_0_push_0 (kt := fun _ => ?_) (kf := fun z => absurd ?_ z)
  · have fin : ∀ (a3 : Option Value), am_T false ya_0_push d (fun r τ => r = none ∧ ∃ f : Nat → Int32, τ = am_sI (am_sA σ 5 5 f) 5 6 (nI (h + 1)) ∧ ft_It f h (am_I σ 5 7) (am_I σ 5 8) (am_I σ 5 9) (am_I σ 5 10) x1 (am_bI sd) ∧ ∀ j, j < 6 * h → f j = am_A σ 5 5 j) 89 [some (.ref (am_oid 5)), some (.int x1), some (.int (am_bI sd)), a3] [.int (am_bI sd), .int (nI (6 * h + 5)), .ref (am_aid 5 5)] (am_sA σ 5 5 (upd (upd (upd (upd (upd (am_A σ 5 5) (6 * h + 0) (am_I σ 5 7)) (6 * h + 1) (am_I σ 5 8)) (6 * h + 2) (am_I σ 5 9)) (6 * h + 3) (am_I σ 5 10)) (6 * h + 4) x1)) := by
      intro a3
      refine kb_0_push_89 (hi0 := w 5 (by decide)) (hq := ⟨rfl, upd (upd (upd (upd (upd (upd (am_A σ 5 5) (6 * h + 0) (am_I σ 5 7)) (6 * h + 1) (am_I σ 5 8)) (6 * h + 2) (am_I σ 5 9)) (6 * h + 3) (am_I σ 5 10)) (6 * h + 4) x1) (6 * h + 5) (am_bI sd), ?_, ?_, ?_⟩)
      · rw [am_sA_sA, am_A_sA, if_pos ⟨rfl, rfl⟩, c 5 (by decide), am_I_sA, hh, nI_1]
      · refine ⟨?_, ?_, ?_, ?_, ?_, ?_⟩ <;> simp [upd]
      · intro j hj
        simp [upd, show j ≠ 6 * h by omega, show j ≠ 6 * h + 1 by omega, show j ≠ 6 * h + 2 by omega, show j ≠ 6 * h + 3 by omega, show j ≠ 6 * h + 4 by omega, show j ≠ 6 * h + 5 by omega]
    refine kb_0_push_10 (hi1 := by rw [q0]; exact w 0 (by decide)) (hi2 := by rw [q1]; exact w 1 (by decide)) (hi3 := by rw [q2]; exact w 2 (by decide)) (hi4 := by rw [q3]; exact w 3 (by decide)) (hi5 := by rw [q4]; exact w 4 (by decide)) (kt := fun z => ?_) (kf := fun z => ?_)
    · rw [q5, q4, q3, q2, q1, q0, c 0 (by decide), c 1 (by decide), c 2 (by decide), c 3 (by decide), c 4 (by decide), am_sA_sA, am_sA_sA, am_sA_sA, am_sA_sA]
      cases sd
      · exact kb_0_push_88 (k := fin _)
      · exact absurd z (by decide)
    · rw [q5, q4, q3, q2, q1, q0, c 0 (by decide), c 1 (by decide), c 2 (by decide), c 3 (by decide), c 4 (by decide), am_sA_sA, am_sA_sA, am_sA_sA, am_sA_sA]
      cases sd
      · exact absurd rfl z
      · exact kb_0_push_84 (k := fin _)
  · rw [hh, e20]; exact nI_lt hh2 (by omega)
/-- the state behind pop -/
def ft_pop (σ : am_St) (h : Nat) (x0 x1 x2 x3 x4 x5 : Int32) : am_St := am_sI (am_sI (am_sI (am_sI (am_sI (am_sI (am_sI σ 5 6 (nI h)) 5 7 x0) 5 8 x1) 5 9 x2) 5 10 x3) 5 11 x4) 5 12 x5
theorem sp_0_pop {d h : Nat} {x0 x1 x2 x3 x4 : Int32} {sd : Bool} {σ : am_St} (hh : am_I σ 5 6 = nI (h + 1)) (hh2 : h < 20) (hf : ft_It (am_A σ 5 5) h x0 x1 x2 x3 x4 (am_bI sd)) : am_C false ya_0_pop d [.ref (am_oid 5)] σ (fun r τ => r = none ∧ τ = ft_pop σ h x0 x1 x2 x3 x4 (am_bI sd)) := by
  obtain ⟨f0, f1, f2, f3, f4, f5⟩ := hf
  have e6 : nI h * 6 = nI (6 * h) := by rw [show (6 : Int32) = nI 6 from rfl, nI_mul, Nat.mul_comm]
  have ek : ∀ k : Nat, nI (6 * h) + nI k = nI (6 * h + k) := fun k => nI_add _ _
  have c : ∀ k : Nat, k < 6 → (nI (6 * h + k)).toNatClampNeg = 6 * h + k := fun k hk => nI_clamp (by omega)
  have w : ∀ k : Nat, k < 6 → vp_in (nI (6 * h + k)) 120 := fun k hk => vp_in_nI (by omega) (by omega)
  have hm : am_I σ 5 6 - 1 = nI h := by rw [hh]; exact nI_pred h
  have q0 : (am_I σ 5 6 - 1) * 6 = nI (6 * h + 0) := by rw [hm, e6]; rfl
  have q1 : (am_I σ 5 6 - 1) * 6 + 1 = nI (6 * h + 1) := by rw [hm, e6]; exact ek 1
  have q2 : (am_I σ 5 6 - 1) * 6 + 2 = nI (6 * h + 2) := by rw [hm, e6]; exact ek 2
  have q3 : (am_I σ 5 6 - 1) * 6 + 3 = nI (6 * h + 3) := by rw [hm, e6]; exact ek 3
  have q4 : (am_I σ 5 6 - 1) * 6 + 4 = nI (6 * h + 4) := by rw [hm, e6]; exact ek 4
  have q5 : (am_I σ 5 6 - 1) * 6 + 5 = nI (6 * h + 5) := by rw [hm, e6]; exact ek 5
  refine am_enter rfl (by simp [Value.category]) (Nat.le_of_ble_eq_true rfl) ?_
  refine kb_0_pop_0 (kt := fun _ => ?_) (kf := fun z => absurd ?_ z)
  · refine kb_0_pop_8 (hi0 := by rw [q0]; exact w 0 (by decide)) (hi1 := by rw [q1]; exact w 1 (by decide)) (hi2 := by rw [q2]; exact w 2 (by decide)) (hi3 := by rw [q3]; exact w 3 (by decide)) (hi4 := by rw [q4]; exact w 4 (by decide)) (hi5 := by rw [q5]; exact w 5 (by decide)) (kt := fun z => ?_) (kf := fun z => ?_)
    · rw [q5, c 5 (by decide), f5] at z
      rw [q4, q3, q2, q1, q0, c 0 (by decide), c 1 (by decide), c 2 (by decide), c 3 (by decide), c 4 (by decide), hm, show 6 * h + 0 = 6 * h from rfl, f0, f1, f2, f3, f4]
      cases sd
      · exact kb_0_pop_101 (k := kb_0_pop_102 (hb0 := Or.inl rfl) (hq := ⟨rfl, rfl⟩))
      · exact absurd rfl z
    · rw [q5, c 5 (by decide), f5] at z
      rw [q4, q3, q2, q1, q0, c 0 (by decide), c 1 (by decide), c 2 (by decide), c 3 (by decide), c 4 (by decide), hm, show 6 * h + 0 = 6 * h from rfl, f0, f1, f2, f3, f4]
      cases sd
      · exact absurd z (by decide)
      · exact kb_0_pop_97 (k := kb_0_pop_102 (hb0 := Or.inr rfl) (hq := ⟨rfl, rfl⟩))
  · rw [hh, ← nI_0]; exact nI_lt (by omega) (by omega)
