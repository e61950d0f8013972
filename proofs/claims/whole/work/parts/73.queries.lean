/-! queries of the world and of a learner: the class -/
def am_ix (N : Nat) (x : Int32) : Option Nat := if x < 0 ∨ nI N ≤ x then none else some x.toNatClampNeg
theorem am_ix_cases (N : Nat) (hN : N < 2 ^ 31) (x : Int32) : (∃ s, s < N ∧ x = nI s ∧ am_ix N x = some s ∧ ¬ x < 0 ∧ ¬ nI N ≤ x) ∨ (am_ix N x = none ∧ (x < 0 ∨ nI N ≤ x)) := by
  by_cases h : x < 0 ∨ nI N ≤ x
  · exact Or.inr ⟨by unfold am_ix; rw [if_pos h], h⟩
  · have h1 : ¬ x < 0 := fun z => h (Or.inl z)
    have h2 : ¬ nI N ≤ x := fun z => h (Or.inr z)
    obtain ⟨j, hj, hx⟩ := nI_of h1
    refine Or.inl ⟨j, ?_, hx, ?_, h1, h2⟩
    · rw [hx, nI_leI hN hj] at h2; omega
    · unfold am_ix
      rw [if_neg h, hx, nI_clamp hj]
def fl_w (w : Nat) : Int32 := if w = 0 then 1 else if w = 1 then 2 else if w = 2 then 4 else 8
theorem am_f4_w (f : Nat → Bool) {w : Nat} (hw : w < 4) : ((am_f4 (f 0) (f 1) (f 2) (f 3) &&& fl_w w) = 0) = (f w = false) := by
  have h := am_f4_and (f 0) (f 1) (f 2) (f 3)
  match w, hw with
  | 0, _ => exact h.1
  | 1, _ => exact h.2.1
  | 2, _ => exact h.2.2.1
  | 3, _ => exact h.2.2.2
def nx_cn (nx : Nat → Nat → Option Nat) (K s : Nat) : Nat := am_cn (fun k => (nx s k).isSome) K
section QRY
variable {d N K T : Nat} {tb : Nat → Int32} {fl : Nat → Nat → Bool} {nx : Nat → Nat → Option Nat} {σ : am_St}
theorem sp_9_hasState (hW : am_Wo σ N K T tb fl nx) (x : Int32) : am_C false ya_9_hasState d [.ref (am_oid 4), .int x] σ (fun r τ => τ = σ ∧ r = some (.int (am_bI (am_ix N x).isSome))) := by
  have h4 := hW.2.2.2.1
  have hN := hW.1
  refine am_enter rfl (by simp [Value.category]) (Nat.le_of_ble_eq_true rfl) ?_
  rcases am_ix_cases N (by omega) x with ⟨s, -, -, h3, h1, h2⟩ | ⟨h3, h⟩
  · rw [h3]
    refine kb_9_hasState_0 (kt := fun z => absurd z h1) (kf := fun _ => kb_9_hasState_4 (kt := fun z => absurd z (by rw [h4]; exact h2)) (kf := fun _ => kb_9_hasState_12 (k := kb_9_hasState_17 (hb0 := rfl) (hq := ⟨rfl, rfl⟩))))
  · rw [h3]
    refine kb_9_hasState_0 (kt := fun z => kb_9_hasState_16 (k := kb_9_hasState_17 (hb0 := rfl) (hq := ⟨rfl, rfl⟩))) (kf := fun z => kb_9_hasState_4 (kt := fun z => kb_9_hasState_16 (k := kb_9_hasState_17 (hb0 := rfl) (hq := ⟨rfl, rfl⟩))) (kf := fun y => ?_))
    rw [h4] at y
    exact absurd h (fun c => c.elim z y)
theorem sp_9_hasTest (hW : am_Wo σ N K T tb fl nx) (x : Int32) : am_C false ya_9_hasTest d [.ref (am_oid 4), .int x] σ (fun r τ => τ = σ ∧ r = some (.int (am_bI (am_ix T x).isSome))) := by
  have h4 := hW.2.2.2.2.2.1
  have hN := hW.2.2.1
  refine am_enter rfl (by simp [Value.category]) (Nat.le_of_ble_eq_true rfl) ?_
  rcases am_ix_cases T (by omega) x with ⟨s, -, -, h3, h1, h2⟩ | ⟨h3, h⟩
  · rw [h3]
    refine kb_9_hasTest_0 (kt := fun z => absurd z h1) (kf := fun _ => kb_9_hasTest_4 (kt := fun z => absurd z (by rw [h4]; exact h2)) (kf := fun _ => kb_9_hasTest_12 (k := kb_9_hasTest_17 (hb0 := rfl) (hq := ⟨rfl, rfl⟩))))
  · rw [h3]
    refine kb_9_hasTest_0 (kt := fun z => kb_9_hasTest_16 (k := kb_9_hasTest_17 (hb0 := rfl) (hq := ⟨rfl, rfl⟩))) (kf := fun z => kb_9_hasTest_4 (kt := fun z => kb_9_hasTest_16 (k := kb_9_hasTest_17 (hb0 := rfl) (hq := ⟨rfl, rfl⟩))) (kf := fun y => ?_))
    rw [h4] at y
    exact absurd h (fun c => c.elim z y)
theorem sp_9_flag (hW : am_Wo σ N K T tb fl nx) {s w : Nat} (hs : s < N) (hw : w < 4) : am_C false ya_9_flag d [.ref (am_oid 4), .int (nI s), .int (fl_w w)] σ (fun r τ => τ = σ ∧ r = some (.int (am_bI (fl s w)))) := by
  have hN := hW.1
  have e : am_A σ 4 9 (nI s).toNatClampNeg = am_f4 (fl s 0) (fl s 1) (fl s 2) (fl s 3) := by rw [nI_clamp (by omega)]; exact (hW.2.2.2.2.2.2.1 s hs).2
  refine am_enter rfl (by simp [Value.category]) (Nat.le_of_ble_eq_true rfl) ?_
  refine kb_9_flag_0 (hi0 := vp_in_nI (by omega) (by omega)) (kt := fun z => ?_) (kf := fun z => ?_)
  · rw [e, am_f4_w _ hw] at z
    exact kb_9_flag_15 (k := kb_9_flag_16 ⟨rfl, by rw [z]; rfl⟩)
  · rw [e, am_f4_w _ hw] at z
    have z' : fl s w = true := by simpa using z
    exact kb_9_flag_11 (k := kb_9_flag_16 ⟨rfl, by rw [z']; rfl⟩)
theorem sp_9_flagged (hW : am_Wo σ N K T tb fl nx) {w : Nat} (hw : w < 4) : am_C false ya_9_flagged (d + 1) [.ref (am_oid 4), .int (fl_w w)] σ (fun r τ => τ = σ ∧ r = some (.int (nI (am_cn (fun s => fl s w) N)))) := by
  have hN := hW.1
  have h4 := hW.2.2.2.1
  have loop : ∀ (j i : Nat), i + j = N → am_T false ya_9_flagged (d + 1) (fun r τ => τ = σ ∧ r = some (.int (nI (am_cn (fun s => fl s w) N)))) 4 [some (.ref (am_oid 4)), some (.int (fl_w w)), some (.int (nI (am_cn (fun s => fl s w) i))), some (.int (nI i))] [] σ := by
    intro j
    induction j with
    | zero =>
      intro i hi
      have : i = N := by omega
      subst this
      exact kb_9_flagged_4 (kt := fun _ => kb_9_flagged_27 ⟨rfl, rfl⟩) (kf := fun z => absurd (by rw [h4]; exact nI_le (by omega) (by omega)) z)
    | succ j ih =>
      intro i hi
      refine kb_9_flagged_4 (kt := fun z => absurd z (by rw [h4]; exact nI_ge (by omega) (by omega))) (kf := fun _ => ?_)
      refine kb_9_flagged_12 (hC := sp_9_flag hW (show i < N by omega) hw) (k := fun r τ hr => ?_)
      obtain ⟨rfl, rfl⟩ := hr
      refine kb_9_flagged_19 (k := ?_)
      rw [nI_1, nI_cn (fun s => fl s w)]
      exact ih (i + 1) (by omega)
  refine am_enter rfl (by simp [Value.category]) (Nat.le_of_ble_eq_true rfl) (kb_9_flagged_0 (k := ?_))
  have := loop N 0 (by omega)
  rw [show am_cn (fun s => fl s w) 0 = 0 from rfl, nI_0] at this
  exact this
theorem sp_9_stepsFrom (hW : am_Wo σ N K T tb fl nx) {s : Nat} (hs : s < N) : am_C false ya_9_stepsFrom d [.ref (am_oid 4), .int (nI s)] σ (fun r τ => τ = σ ∧ r = some (.int (nI (nx_cn nx K s)))) := by
  obtain ⟨w1, w2, w3, w4, w5, w6, w7, w8⟩ := id hW
  unfold nx_cn
  have loop : ∀ (j i : Nat), i + j = K → am_T false ya_9_stepsFrom d (fun r τ => τ = σ ∧ r = some (.int (nI (am_cn (fun k => (nx s k).isSome) K)))) 4 [some (.ref (am_oid 4)), some (.int (nI s)), some (.int (nI (am_cn (fun k => (nx s k).isSome) i))), some (.int (nI i))] [] σ := by
    intro j
    induction j with
    | zero =>
      intro i hi
      have : i = K := by omega
      subst this
      exact kb_9_stepsFrom_4 (kt := fun _ => kb_9_stepsFrom_35 ⟨rfl, rfl⟩) (kf := fun z => absurd (by rw [w5]; exact nI_le (by omega) (by omega)) z)
    | succ j ih =>
      intro i hi
      obtain ⟨g1, g2⟩ := w8 s hs i (by omega)
      have eT : am_A σ 4 11 (nI s * 8 + nI i).toNatClampNeg = am_oI (-2) (nx s i) := by rw [am_ix8, nI_clamp (by omega)]; exact g1
      have next := ih (i + 1) (by omega)
      rw [← nI_cn] at next
      refine kb_9_stepsFrom_4 (kt := fun z => absurd z (by rw [w5]; exact nI_ge (by omega) (by omega))) (kf := fun _ => ?_)
      refine kb_9_stepsFrom_12 (hi0 := by rw [am_ix8]; exact vp_in_nI (by omega) (by omega)) (kt := fun z => ?_) (kf := fun z => ?_)
      · rw [eT, am_oI_neg g2 w1 _ am_neg2] at z
        rw [z] at next
        refine kb_9_stepsFrom_29 (k := ?_)
        rw [nI_1]
        have e0 : nI (am_cn (fun k => (nx s k).isSome) i) + am_bI (none : Option Nat).isSome = nI (am_cn (fun k => (nx s k).isSome) i) := Int32.add_zero _
        rw [e0] at next
        exact next
      · rw [eT, am_oI_neg g2 w1 _ am_neg2] at z
        cases hx : nx s i with
        | none => exact absurd hx z
        | some t =>
          rw [hx] at next
          refine kb_9_stepsFrom_26 (k := kb_9_stepsFrom_29 (k := ?_))
          rw [nI_1 i]
          exact next
  refine am_enter rfl (by simp [Value.category]) (Nat.le_of_ble_eq_true rfl) (kb_9_stepsFrom_0 (k := ?_))
  have := loop K 0 (by omega)
  rw [show am_cn (fun k => (nx s k).isSome) 0 = 0 from rfl, nI_0] at this
  exact this
variable {L : Nat} {y : lr_T} {care order : Bool} {tm : Int32}
theorem sp_1_acceptedStates (hW : am_Wo σ N K T tb fl nx) (h : le_D σ L y care order tm N) : am_C false ya_1_acceptedStates (d + 2) [.ref (am_oid L)] σ (fun r τ => τ = σ ∧ r = some (.int (nI (am_cn (fun s => tr_hd y.2.1.1 y.2.1.2 (tb s)) N)))) := by
  obtain ⟨w1, w2, w3, w4, w5, w6, w7, w8⟩ := id hW
  obtain ⟨hL, hS, hst, ht3, -, -, hTr, hal, -⟩ := h
  obtain ⟨c1, e0, e1, e2, c9, c0, c5⟩ := le_lk hL
  obtain ⟨p, hp⟩ : ∃ p : Nat → Bool, p = fun s => tr_hd y.2.1.1 y.2.1.2 (tb s) := ⟨_, rfl⟩
  rw [← hp]
  have loop : ∀ (j i : Nat), i + j = N → am_T false ya_1_acceptedStates (d + 2) (fun r τ => τ = σ ∧ r = some (.int (nI (am_cn p N)))) 4 [some (.ref (am_oid L)), some (.int (nI (am_cn p i))), some (.int (nI i))] [] σ := by
    intro j
    induction j with
    | zero =>
      intro i hi
      have : i = N := by omega
      subst this
      exact kb_1_acceptedStates_4 (kt := fun _ => kb_1_acceptedStates_43 ⟨rfl, rfl⟩) (kf := fun z => absurd (by rw [e0, w4]; exact nI_le (by omega) (by omega)) z)
    | succ j ih =>
      intro i hi
      have next := ih (i + 1) (by omega)
      rw [← nI_cn] at next
      have eB : am_A σ (am_lk L 0) 10 (nI i).toNatClampNeg = tb i := by rw [e0, nI_clamp (by omega)]; exact (w7 i (by omega)).1
      refine kb_1_acceptedStates_4 (kt := fun z => absurd z (by rw [e0, w4]; exact nI_ge (by omega) (by omega))) (kf := fun _ => ?_)
      refine kb_1_acceptedStates_15 (hi0 := vp_in_nI (by omega) (by omega)) (hc2 := ht3.k) (hC := by rw [eB]; exact sp_8_accepts hTr hal) (k := fun r τ hr => ?_)
      obtain ⟨rfl, rfl⟩ := hr
      have ep : tr_hd y.2.1.1 y.2.1.2 (tb i) = p i := by rw [hp]
      rw [ep]
      cases hc : p i with
      | false =>
        rw [hc] at next
        refine kb_1_acceptedStates_31 (kt := fun _ => kb_1_acceptedStates_37 (k := ?_)) (kf := fun z => absurd rfl z)
        rw [nI_1]
        have e0' : nI (am_cn p i) + am_bI false = nI (am_cn p i) := Int32.add_zero _
        rw [e0'] at next
        exact next
      | true =>
        rw [hc] at next
        refine kb_1_acceptedStates_31 (kt := fun z => absurd z (by decide)) (kf := fun _ => kb_1_acceptedStates_34 (k := kb_1_acceptedStates_37 (k := ?_)))
        rw [nI_1 i]
        exact next
  refine am_enter rfl (by simp [Value.category]) (Nat.le_of_ble_eq_true rfl) (kb_1_acceptedStates_0 (k := ?_))
  have := loop N 0 (by omega)
  rw [show am_cn p 0 = 0 from rfl, nI_0] at this
  exact this
/-- whether the walk down comes to a node -/
def tr_lt (nd : Nat → Nat → Int32) (x : Int32) (w : Nat) : Nat → Nat → Bool
  | 0, _ => false
  | f + 1, i => if i = w then true else if nd i 0 = 2 then tr_lt nd x w f (tr_dn nd x i) else false
theorem sp_8_leadsTo {t n w : Nat} {nd : Nat → Nat → Int32} {x : Int32} (h : am_Tr σ t n nd) (ho : tr_al n nd) (hw : w < n) : am_C false ya_8_leadsTo (d + 1) [.ref (am_oid t), .int (nI w), .int x] σ (fun r τ => τ = σ ∧ r = some (.int (am_bI (tr_lt nd x w 17 0)))) := by
  have h' := h
  obtain ⟨ht, hn, hI, hA⟩ := h'
  have e16 : (16 : Int32) = nI 16 := by decide
  have loop : ∀ (f k i : Nat), k + f = 17 → i < n → am_T false ya_8_leadsTo (d + 1) (fun r τ => τ = σ ∧ r = some (.int (am_bI (tr_lt nd x w f i)))) 16 [some (.ref (am_oid t)), some (.int (nI w)), some (.int x), some (.int (nI i)), some (.int (nI k))] [] σ := by
    intro f
    induction f with
    | zero =>
      intro k i hk hi
      refine kb_8_leadsTo_16 (kt := fun _ => kb_8_leadsTo_61 ⟨rfl, rfl⟩) (kf := fun z => absurd ?_ z)
      rw [e16]; exact nI_lt (by omega) (by omega)
    | succ f ih =>
      intro k i hk hi
      have v : vp_in (nI i) 400 := vp_in_nI (by omega) (by omega)
      have a0 : am_A σ t 1 i = nd i 0 := hA i hi 0 (by decide)
      have e : tr_lt nd x w (f + 1) i = if i = w then true else if nd i 0 = 2 then tr_lt nd x w f (tr_dn nd x i) else false := rfl
      rw [e]
      refine kb_8_leadsTo_16 (kt := fun z => absurd z ?_) (kf := fun _ => ?_)
      · rw [e16]; exact nI_nlt (by omega) (by omega)
      refine kb_8_leadsTo_23 (kt := fun z => absurd z (nI_pos (by omega))) (kf := fun _ => ?_)
      refine kb_8_leadsTo_27 (kt := fun z => ?_) (kf := fun z => ?_)
      · rw [if_neg (fun c => z (by rw [c]))]
        refine kb_8_leadsTo_34 (hi0 := v) (kt := fun y => ?_) (kf := fun y => ?_)
        · rw [nI_clamp (by omega), a0] at y
          rw [if_neg y]
          refine kb_8_leadsTo_53 (k := kb_8_leadsTo_54 (k := ?_))
          have fin : ∀ x4 : Int32, am_T false ya_8_leadsTo (d + 1) (fun r τ => τ = σ ∧ r = some (.int (am_bI false))) 16 [some (.ref (am_oid t)), some (.int (nI w)), some (.int x), some (.int (-1)), some (.int x4)] [] σ := fun x4 =>
            kb_8_leadsTo_16 (kt := fun _ => kb_8_leadsTo_61 ⟨rfl, rfl⟩) (kf := fun _ => kb_8_leadsTo_23 (kt := fun _ => kb_8_leadsTo_61 ⟨rfl, rfl⟩) (kf := fun z => absurd am_neg1 z))
          exact fin _
        · rw [nI_clamp (by omega), a0] at y
          rw [if_pos y]
          refine kb_8_leadsTo_44 (hC := sp_8_below h hi (ho i hi) y) (k := fun r τ hr => ?_)
          obtain ⟨rfl, rfl⟩ := hr
          refine kb_8_leadsTo_50 (k := kb_8_leadsTo_54 (k := ?_))
          rw [nI_1]
          exact ih (k + 1) _ (by omega) (tr_dn_ok (ho i hi) hn y).2
      · have := nI_inj (by omega) (by omega) z
        rw [if_pos this]
        exact kb_8_leadsTo_32 ⟨rfl, rfl⟩
  refine am_enter rfl (by simp [Value.category]) (Nat.le_of_ble_eq_true rfl) ?_
  refine kb_8_leadsTo_0 (kt := fun z => absurd z ?_) (kf := fun _ => kb_8_leadsTo_7 (k := kb_8_leadsTo_12 (k := ?_)))
  · rw [hI]; exact nI_nle (by omega) (by omega)
  · have := loop 17 0 0 (by omega) (by omega)
    rw [nI_0] at this
    exact this
theorem sp_1_statesAt (hW : am_Wo σ N K T tb fl nx) (h : le_D σ L y care order tm N) {w : Nat} (hw : w < y.2.1.1) : am_C false ya_1_statesAt (d + 2) [.ref (am_oid L), .int (nI w)] σ (fun r τ => τ = σ ∧ r = some (.int (nI (am_cn (fun s => tr_lt y.2.1.2 (tb s) w 17 0) N)))) := by
  obtain ⟨w1, w2, w3, w4, w5, w6, w7, w8⟩ := id hW
  obtain ⟨hL, hS, hst, ht3, -, -, hTr, hal, -⟩ := h
  obtain ⟨c1, e0, e1, e2, c9, c0, c5⟩ := le_lk hL
  obtain ⟨p, hp⟩ : ∃ p : Nat → Bool, p = fun s => tr_lt y.2.1.2 (tb s) w 17 0 := ⟨_, rfl⟩
  rw [← hp]
  have loop : ∀ (j i : Nat), i + j = N → am_T false ya_1_statesAt (d + 2) (fun r τ => τ = σ ∧ r = some (.int (nI (am_cn p N)))) 4 [some (.ref (am_oid L)), some (.int (nI w)), some (.int (nI (am_cn p i))), some (.int (nI i))] [] σ := by
    intro j
    induction j with
    | zero =>
      intro i hi
      have : i = N := by omega
      subst this
      exact kb_1_statesAt_4 (kt := fun _ => kb_1_statesAt_44 ⟨rfl, rfl⟩) (kf := fun z => absurd (by rw [e0, w4]; exact nI_le (by omega) (by omega)) z)
    | succ j ih =>
      intro i hi
      have next := ih (i + 1) (by omega)
      rw [← nI_cn] at next
      have eB : am_A σ (am_lk L 0) 10 (nI i).toNatClampNeg = tb i := by rw [e0, nI_clamp (by omega)]; exact (w7 i (by omega)).1
      refine kb_1_statesAt_4 (kt := fun z => absurd z (by rw [e0, w4]; exact nI_ge (by omega) (by omega))) (kf := fun _ => ?_)
      refine kb_1_statesAt_15 (hi0 := vp_in_nI (by omega) (by omega)) (hc2 := ht3.k) (hC := by rw [eB]; exact sp_8_leadsTo hTr hal hw) (k := fun r τ hr => ?_)
      obtain ⟨rfl, rfl⟩ := hr
      have ep : tr_lt y.2.1.2 (tb i) w 17 0 = p i := by rw [hp]
      rw [ep]
      cases hc : p i with
      | false =>
        rw [hc] at next
        refine kb_1_statesAt_32 (kt := fun _ => kb_1_statesAt_38 (k := ?_)) (kf := fun z => absurd rfl z)
        rw [nI_1]
        have e0' : nI (am_cn p i) + am_bI false = nI (am_cn p i) := Int32.add_zero _
        rw [e0'] at next
        exact next
      | true =>
        rw [hc] at next
        refine kb_1_statesAt_32 (kt := fun z => absurd z (by decide)) (kf := fun _ => kb_1_statesAt_35 (k := kb_1_statesAt_38 (k := ?_)))
        rw [nI_1 i]
        exact next
  refine am_enter rfl (by simp [Value.category]) (Nat.le_of_ble_eq_true rfl) (kb_1_statesAt_0 (k := ?_))
  have := loop N 0 (by omega)
  rw [show am_cn p 0 = 0 from rfl, nI_0] at this
  exact this
theorem sp_5_pairsTo (o n : Nat) (x : Int32) (ho : am_k false o = 5) (hn : am_I σ o 1 = nI n) (hb : n ≤ 300) : am_C false ya_5_pairsTo d [.ref (am_oid o), .int x] σ (fun r τ => r = some (.int (nI (am_cn (fun q => am_A σ o 5 q == x) n))) ∧ τ = σ) := by
  obtain ⟨p, hp⟩ : ∃ p : Nat → Bool, p = fun q => am_A σ o 5 q == x := ⟨_, rfl⟩
  rw [← hp]
  have loop : ∀ (j i : Nat), i + j = n → am_T false ya_5_pairsTo d (fun r τ => r = some (.int (nI (am_cn p n))) ∧ τ = σ) 4 [some (.ref (am_oid o)), some (.int x), some (.int (nI (am_cn p i))), some (.int (nI i))] [] σ := by
    intro j
    induction j with
    | zero =>
      intro i hi
      have : i = n := by omega
      subst this
      exact kb_5_pairsTo_4 (kt := fun _ => kb_5_pairsTo_31 ⟨rfl, rfl⟩) (kf := fun z => absurd (by rw [hn]; exact nI_le (by omega) (by omega)) z)
    | succ j ih =>
      intro i hi
      have next := ih (i + 1) (by omega)
      rw [← nI_cn] at next
      refine kb_5_pairsTo_4 (kt := fun z => absurd z (by rw [hn]; exact nI_ge (by omega) (by omega))) (kf := fun _ => ?_)
      refine kb_5_pairsTo_12 (hi0 := vp_in_nI (by omega) (by omega)) (kt := fun z => ?_) (kf := fun z => ?_)
      · rw [nI_clamp (by omega)] at z
        have hc : p i = false := by rw [hp]; simpa using z
        rw [hc] at next
        refine kb_5_pairsTo_25 (k := ?_)
        rw [nI_1]
        have e0' : nI (am_cn p i) + am_bI false = nI (am_cn p i) := Int32.add_zero _
        rw [e0'] at next
        exact next
      · rw [nI_clamp (by omega)] at z
        have hc : p i = true := by rw [hp]; simpa using z
        rw [hc] at next
        refine kb_5_pairsTo_22 (k := kb_5_pairsTo_25 (k := ?_))
        rw [nI_1 i]
        exact next
  refine am_enter rfl (by simp [Value.category]) (Nat.le_of_ble_eq_true rfl) (kb_5_pairsTo_0 (k := ?_))
  have := loop n 0 (by omega)
  rw [show am_cn p 0 = 0 from rfl, nI_0] at this
  exact this
end QRY
