/-! ifLearned, needed: the class; THE REFERENCE: isState, isTest, areWays, laysPoints, begins, tries, ifLearned, needed -/
noncomputable def v_if (N K T : Nat) (tb : Nat → Int32) (fl : Nat → Nat → Bool) (nx : Nat → Nat → Option Nat) (x1 x2 x3 x4 : Int32) : Int32 := match v_way x1 x2 with
  | none => -1
  | some c => if x4 < 0 ∨ ¬ x4 ≤ 3 then -1 else if x3 = -1 then lf_f (lf_y N K T tb fl nx c.1 c.2 none) x4.toNatClampNeg else match am_ix T x3 with
    | none => -1
    | some t => lf_f (lf_y N K T tb fl nx c.1 c.2 (some t)) x4.toNatClampNeg
noncomputable def v_needed (N K T : Nat) (tb : Nat → Int32) (fl : Nat → Nat → Bool) (nx : Nat → Nat → Option Nat) (x1 x2 : Int32) : Int32 := match v_way x1 x2 with
  | none => -1
  | some c => nI (am_cn (fun t => !decide (lf_f (lf_y N K T tb fl nx c.1 c.2 (some t)) 0 = 1)) T)
theorem fr_T.wo {N K T : Nat} {tb : Nat → Int32} {fl : Nat → Nat → Bool} {nx : Nat → Nat → Option Nat} {σ τ : am_St} (h : fr_T σ τ) (hW : am_Wo σ N K T tb fl nx) : am_Wo τ N K T tb fl nx := by
  have := h.1 4 (le_own4 (Or.inr rfl)).1 (by decide)
  exact hW.same this.1 this.2.1
section CIF
variable {d N K T : Nat} {tb : Nat → Int32} {fl : Nat → Nat → Bool} {nx : Nat → Nat → Option Nat} {σ : am_St}
theorem sp_10_ifLearned (hW : am_Wo σ N K T tb fl nx) (h7 : cl_7 σ) (hca : cl_ca σ N K T tb fl nx) (x1 x2 x3 x4 : Int32) : am_C false ya_10_ifLearned (d + 7) [.ref (am_oid 0), .int x1, .int x2, .int x3, .int x4] σ (fun r τ => r = some (.int (v_if N K T tb fl nx x1 x2 x3 x4)) ∧ fr_T σ τ ∧ cl_7 τ ∧ cl_ca τ N K T tb fl nx) := by
  have hT := hW.2.2.1
  have e3 : (3 : Int32) = nI 3 := by decide
  have e4 : (4 : Int32) = nI 4 := by decide
  refine am_enter rfl (by simp [Value.category]) (Nat.le_of_ble_eq_true rfl) ?_
  refine kb_10_ifLearned_0 (hC := sp_10_isWay x1 x2) (k := fun r τ hr => ?_)
  obtain ⟨rfl, rfl⟩ := hr
  cases hw : v_way x1 x2 with
  | none =>
    have e : v_if N K T tb fl nx x1 x2 x3 x4 = -1 := by unfold v_if; rw [hw]
    rw [e]
    exact kb_10_ifLearned_5 (kt := fun _ => kb_10_ifLearned_19 ⟨rfl, fr_T.rf, h7, hca⟩) (kf := fun z => absurd rfl z)
  | some c =>
    obtain ⟨e1, e2⟩ := v_way_some hw
    have eV : v_if N K T tb fl nx x1 x2 x3 x4 = if x4 < 0 ∨ ¬ x4 ≤ 3 then -1 else if x3 = -1 then lf_f (lf_y N K T tb fl nx c.1 c.2 none) x4.toNatClampNeg else match am_ix T x3 with | none => -1 | some t => lf_f (lf_y N K T tb fl nx c.1 c.2 (some t)) x4.toNatClampNeg := by unfold v_if; rw [hw]
    rw [eV]
    refine kb_10_ifLearned_5 (kt := fun z => absurd z (show ¬ am_bI true = 0 by decide)) (kf := fun _ => ?_)
    refine kb_10_ifLearned_8 (kt := fun z => kb_10_ifLearned_19 ⟨by rw [if_pos (Or.inl z)], fr_T.rf, h7, hca⟩) (kf := fun z1 => ?_)
    obtain ⟨j, hj, rfl⟩ := nI_of z1
    refine kb_10_ifLearned_13 (kt := fun z2 => ?_) (kf := fun z => ?_)
    rotate_left
    · rw [e4, nI_ltI hj (by decide)] at z
      have zz : ¬ nI j ≤ 3 := by rw [e3, nI_leI hj (by decide)]; omega
      exact kb_10_ifLearned_19 ⟨by rw [if_pos (Or.inr zz)], fr_T.rf, h7, hca⟩
    rw [e4, nI_ltI hj (by decide)] at z2
    rw [if_neg (fun z => z.elim z1 (fun z => z (by rw [e3, nI_leI hj (by decide)]; omega))), nI_clamp hj, e1, e2]
    by_cases c3 : x3 = -1
    · rw [if_pos c3]
      refine kb_10_ifLearned_21 (kt := fun _ => ?_) (kf := fun z => absurd c3 z)
      refine kb_10_ifLearned_39 (hC := by rw [c3]; exact sp_10_trialFact (d := d) hW h7 hca c.1 c.2 (w := none) (fun t ht => by cases ht) z2) (k := fun r τ' hr => ?_)
      obtain ⟨rfl, u⟩ := hr
      exact kb_10_ifLearned_48 ⟨rfl, u⟩
    · rw [if_neg c3]
      refine kb_10_ifLearned_21 (kt := fun z => absurd z c3) (kf := fun _ => ?_)
      refine kb_10_ifLearned_26 (hC := sp_9_hasTest hW x3) (k := fun r τ' hr => ?_)
      obtain ⟨hτ, rfl⟩ := hr
      subst hτ
      rcases am_ix_cases T (by omega) x3 with ⟨t, ht, rfl, e, -, -⟩ | ⟨e, -⟩
      · rw [e]
        refine kb_10_ifLearned_34 (kt := fun _ => ?_) (kf := fun z => absurd z (show ¬ am_bI true = 0 by decide))
        refine kb_10_ifLearned_39 (hC := sp_10_trialFact (d := d) hW h7 hca c.1 c.2 (w := some t) (fun t' ht' => by injection ht' with ht'; omega) z2) (k := fun r τ2 hr => ?_)
        obtain ⟨rfl, u⟩ := hr
        exact kb_10_ifLearned_48 ⟨rfl, u⟩
      · rw [e]
        exact kb_10_ifLearned_34 (kt := fun z => absurd rfl z) (kf := fun _ => kb_10_ifLearned_37 ⟨rfl, fr_T.rf, h7, hca⟩)
theorem sp_10_needed (hW : am_Wo σ N K T tb fl nx) (h7 : cl_7 σ) (hca : cl_ca σ N K T tb fl nx) (x1 x2 : Int32) : am_C false ya_10_needed (d + 7) [.ref (am_oid 0), .int x1, .int x2] σ (fun r τ => r = some (.int (v_needed N K T tb fl nx x1 x2)) ∧ fr_T σ τ ∧ cl_7 τ ∧ cl_ca τ N K T tb fl nx) := by
  have hT := hW.2.2.1
  refine am_enter rfl (by simp [Value.category]) (Nat.le_of_ble_eq_true rfl) ?_
  refine kb_10_needed_0 (hC := sp_10_isWay x1 x2) (k := fun r τ hr => ?_)
  obtain ⟨rfl, rfl⟩ := hr
  cases hw : v_way x1 x2 with
  | none =>
    have e : v_needed N K T tb fl nx x1 x2 = -1 := by unfold v_needed; rw [hw]
    rw [e]
    exact kb_10_needed_5 (kt := fun z => absurd rfl z) (kf := fun _ => kb_10_needed_8 ⟨rfl, fr_T.rf, h7, hca⟩)
  | some c =>
    obtain ⟨e1, e2⟩ := v_way_some hw
    obtain ⟨p, hp⟩ : ∃ p : Nat → Bool, p = fun t => !decide (lf_f (lf_y N K T tb fl nx c.1 c.2 (some t)) 0 = 1) := ⟨_, rfl⟩
    have eV : v_needed N K T tb fl nx x1 x2 = nI (am_cn p T) := by unfold v_needed; rw [hw, hp]
    rw [eV, e1, e2]
    have loop : ∀ (j t : Nat), t + j = T → ∀ τ' : am_St, fr_T τ τ' → cl_7 τ' → cl_ca τ' N K T tb fl nx → am_T false ya_10_needed (d + 7) (fun r τ' => r = some (.int (nI (am_cn p T))) ∧ fr_T τ τ' ∧ cl_7 τ' ∧ cl_ca τ' N K T tb fl nx) 15 [some (.ref (am_oid 0)), some (.int (am_bI c.1)), some (.int (am_bI c.2)), some (.int (nI (am_cn p t))), some (.int (nI t))] [] τ' := by
      intro j
      induction j with
      | zero =>
        intro t ht τ' D1 D2 D3
        have : t = T := by omega
        subst this
        exact kb_10_needed_15 (kt := fun _ => kb_10_needed_49 ⟨rfl, D1, D2, D3⟩) (kf := fun z => absurd (by rw [(D1.wo hW).2.2.2.2.2.1]; exact nI_le (by omega) (by omega)) z)
      | succ j ih =>
        intro t ht τ' D1 D2 D3
        refine kb_10_needed_15 (kt := fun z => absurd z (by rw [(D1.wo hW).2.2.2.2.2.1]; exact nI_ge (by omega) (by omega))) (kf := fun _ => ?_)
        refine kb_10_needed_27 (hC := sp_10_trialFact (d := d) (D1.wo hW) D2 D3 c.1 c.2 (w := some t) (fun t' ht' => by injection ht' with ht'; omega) (show 0 < 4 by omega)) (k := fun r τ2 hr => ?_)
        obtain ⟨rfl, u1, u2, u3⟩ := hr
        have next := ih (t + 1) (by omega) τ2 (D1.tr u1) u2 u3
        rw [← nI_cn] at next
        have ep : p t = !decide (lf_f (lf_y N K T tb fl nx c.1 c.2 (some t)) 0 = 1) := by rw [hp]
        refine kb_10_needed_36 (kt := fun z => ?_) (kf := fun z => ?_)
        · rw [ep, decide_eq_true z] at next
          refine kb_10_needed_43 (k := ?_)
          rw [nI_1 t]
          have e0' : nI (am_cn p t) + am_bI (!true) = nI (am_cn p t) := Int32.add_zero _
          rw [e0'] at next
          exact next
        · rw [ep, decide_eq_false z] at next
          refine kb_10_needed_40 (k := kb_10_needed_43 (k := ?_))
          rw [nI_1 t]
          exact next
    refine kb_10_needed_5 (kt := fun _ => ?_) (kf := fun z => absurd z (show ¬ am_bI true = 0 by decide))
    refine kb_10_needed_10 (k := ?_)
    have := loop T 0 (by omega) τ fr_T.rf h7 hca
    rw [show am_cn p 0 = 0 from rfl, nI_0] at this
    exact this
theorem sp_11_isState (hW : mo_Wo σ N K T tb fl nx) (x : Int32) : am_C true ya_11_isState d [.ref (am_oid 16), .int x] σ (fun r τ => τ = σ ∧ r = some (.int (am_bI (am_ix N x).isSome))) := by
  have h4 := hW.2.2.2.1
  have hN := hW.1
  refine am_enter rfl (by simp [Value.category]) (Nat.le_of_ble_eq_true rfl) ?_
  rcases am_ix_cases N (by omega) x with ⟨s, -, -, h3, h1, h2⟩ | ⟨h3, h⟩
  · rw [h3]
    exact kb_11_isState_0 (kt := fun z => absurd z h1) (kf := fun _ => kb_11_isState_4 (kt := fun z => absurd z (by rw [h4]; exact h2)) (kf := fun _ => kb_11_isState_12 (k := kb_11_isState_17 (hb0 := rfl) (hq := ⟨rfl, rfl⟩))))
  · rw [h3]
    refine kb_11_isState_0 (kt := fun z => kb_11_isState_16 (k := kb_11_isState_17 (hb0 := rfl) (hq := ⟨rfl, rfl⟩))) (kf := fun z => kb_11_isState_4 (kt := fun z => kb_11_isState_16 (k := kb_11_isState_17 (hb0 := rfl) (hq := ⟨rfl, rfl⟩))) (kf := fun y => ?_))
    rw [h4] at y
    exact absurd h (fun c => c.elim z y)
theorem sp_11_isTest (hW : mo_Wo σ N K T tb fl nx) (x : Int32) : am_C true ya_11_isTest d [.ref (am_oid 16), .int x] σ (fun r τ => τ = σ ∧ r = some (.int (am_bI (am_ix T x).isSome))) := by
  have h4 := hW.2.2.2.2.2.1
  have hN := hW.2.2.1
  refine am_enter rfl (by simp [Value.category]) (Nat.le_of_ble_eq_true rfl) ?_
  rcases am_ix_cases T (by omega) x with ⟨s, -, -, h3, h1, h2⟩ | ⟨h3, h⟩
  · rw [h3]
    exact kb_11_isTest_0 (kt := fun z => absurd z h1) (kf := fun _ => kb_11_isTest_4 (kt := fun z => absurd z (by rw [h4]; exact h2)) (kf := fun _ => kb_11_isTest_14 (k := kb_11_isTest_19 (hb0 := rfl) (hq := ⟨rfl, rfl⟩))))
  · rw [h3]
    refine kb_11_isTest_0 (kt := fun z => kb_11_isTest_18 (k := kb_11_isTest_19 (hb0 := rfl) (hq := ⟨rfl, rfl⟩))) (kf := fun z => kb_11_isTest_4 (kt := fun z => kb_11_isTest_18 (k := kb_11_isTest_19 (hb0 := rfl) (hq := ⟨rfl, rfl⟩))) (kf := fun y => ?_))
    rw [h4] at y
    exact absurd h (fun c => c.elim z y)
theorem sp_11_areWays (x1 x2 : Int32) : am_C true ya_11_areWays d [.int x1, .int x2] σ (fun r τ => τ = σ ∧ r = some (.int (am_bI (v_way x1 x2).isSome))) := by
  refine am_enter rfl (by simp [Value.category]) (Nat.le_of_ble_eq_true rfl) ?_
  have out : (x1 < 0 ∨ 1 < x1 ∨ x2 < 0 ∨ 1 < x2) → am_T true ya_11_areWays d (fun r τ => τ = σ ∧ r = some (.int (am_bI (v_way x1 x2).isSome))) 22 [some (.int x1), some (.int x2)] [] σ := fun z => kb_11_areWays_22 (k := kb_11_areWays_23 (hb0 := rfl) (hq := ⟨rfl, by unfold v_way; rw [if_pos z]; rfl⟩))
  refine kb_11_areWays_0 (kt := fun z => out (Or.inl z)) (kf := fun z1 => ?_)
  refine kb_11_areWays_4 (kt := fun z => out (Or.inr (Or.inl z))) (kf := fun z2 => ?_)
  refine kb_11_areWays_9 (kt := fun z => out (Or.inr (Or.inr (Or.inl z)))) (kf := fun z3 => ?_)
  refine kb_11_areWays_13 (kt := fun z => out (Or.inr (Or.inr (Or.inr z)))) (kf := fun z4 => ?_)
  refine kb_11_areWays_18 (k := kb_11_areWays_23 (hb0 := rfl) (hq := ⟨rfl, ?_⟩))
  unfold v_way; rw [if_neg (fun z => by rcases z with z | z | z | z; exact z1 z; exact z2 z; exact z3 z; exact z4 z)]; rfl
theorem sp_11_laysPoints {P : Nat} {st : Nat → Nat} (h0 : am_A σ 16 25 0 = nI P) (hP : P ≤ 200) (hst : ∀ i, i < P → am_A σ 16 25 (8 + i) = nI (st i) ∧ st i < 600) (inj : ∀ i j, i < P → j < P → st i = st j → i = j) : am_C true ya_11_laysPoints d [.ref (am_oid 16)] σ (fun r τ => r = none ∧ ∃ F : Nat → Int32, τ = am_sA σ 16 27 F ∧ mo_Po F P st) := by
  have e600 : (600 : Int32) = nI 600 := by decide
  have eK : ∀ F : Nat → Int32, am_A (am_sA σ 16 27 F) 16 25 = am_A σ 16 25 := fun F => by rw [am_A_sA, if_neg (by simp)]
  have eL : ∀ F : Nat → Int32, am_A (am_sA σ 16 27 F) 16 27 = F := fun F => by rw [am_A_sA, if_pos ⟨rfl, rfl⟩]
  have loop2 : ∀ (j i : Nat), i + j = P → ∀ F : Nat → Int32, mo_Po F i st → am_T true ya_11_laysPoints d (fun r τ => r = none ∧ ∃ F : Nat → Int32, τ = am_sA σ 16 27 F ∧ mo_Po F P st) 24 [some (.ref (am_oid 16)), some (.int (nI i))] [] (am_sA σ 16 27 F) := by
    intro j
    induction j with
    | zero =>
      intro i hi F hF
      have : i = P := by omega
      subst this
      exact kb_11_laysPoints_24 (kt := fun _ => kb_11_laysPoints_55 (hq := ⟨rfl, F, rfl, hF⟩)) (kf := fun z => absurd (by rw [eK, h0]; exact nI_le (by omega) (by omega)) z)
    | succ j ih =>
      intro i hi F hF
      obtain ⟨s1, s2⟩ := hst i (by omega)
      have x1 : (8 : Int32) + nI i = nI (8 + i) := nI_add 8 i
      have y1 : am_A (am_sA σ 16 27 F) 16 25 ((8 : Int32) + nI i).toNatClampNeg = nI (st i) := by rw [x1, nI_clamp (by omega), eK]; exact s1
      refine kb_11_laysPoints_24 (kt := fun z => absurd z (by rw [eK, h0]; exact nI_ge (by omega) (by omega))) (kf := fun _ => ?_)
      refine kb_11_laysPoints_34 (hi0 := by rw [x1]; exact vp_in_nI (by omega) (by omega)) (hi1 := by rw [y1]; exact vp_in_nI (by omega) (by omega)) (k := ?_)
      rw [y1, nI_clamp (show st i < 2 ^ 31 by omega), nI_1, eL, am_sA_sA]
      refine ih (i + 1) (by omega) _ ⟨fun k hk => ?_, fun s hs hn => ?_⟩
      · by_cases c : k = i
        · rw [c, upd_s]
        · rw [upd_n (fun e => c (inj k i (by omega) (by omega) e))]; exact hF.1 k (by omega)
      · rw [upd_n (fun e => hn i (by omega) e.symm)]
        exact hF.2 s hs (fun k hk => hn k (by omega))
  have loop1 : ∀ (j i : Nat), i + j = 600 → ∀ F : Nat → Int32, (∀ s, s < i → F s = -1) → am_T true ya_11_laysPoints d (fun r τ => r = none ∧ ∃ F : Nat → Int32, τ = am_sA σ 16 27 F ∧ mo_Po F P st) 2 [some (.ref (am_oid 16)), some (.int (nI i))] [] (am_sA σ 16 27 F) := by
    intro j
    induction j with
    | zero =>
      intro i hi F hF
      have : i = 600 := by omega
      subst this
      refine kb_11_laysPoints_2 (kt := fun _ => kb_11_laysPoints_22 (k := ?_)) (kf := fun z => absurd (by rw [e600]; exact nI_le (by omega) (by omega)) z)
      have := loop2 P 0 (by omega) F ⟨fun i hi => absurd hi (Nat.not_lt_zero i), fun s hs _ => hF s hs⟩
      rw [nI_0] at this
      exact this
    | succ j ih =>
      intro i hi F hF
      refine kb_11_laysPoints_2 (kt := fun z => absurd z (by rw [e600]; exact nI_ge (by omega) (by omega))) (kf := fun _ => ?_)
      refine kb_11_laysPoints_9 (hi0 := vp_in_nI (by omega) (by omega)) (k := ?_)
      rw [nI_clamp (show i < 2 ^ 31 by omega), nI_1, eL, am_sA_sA]
      refine ih (i + 1) (by omega) _ (fun s hs => ?_)
      by_cases c : s = i
      · rw [c, upd_s]
      · rw [upd_n c]; exact hF s (by omega)
  refine am_enter rfl (by simp [Value.category]) (Nat.le_of_ble_eq_true rfl) (kb_11_laysPoints_0 (k := ?_))
  have := loop1 600 0 (by omega) (am_A σ 16 27) (fun s hs => absurd hs (Nat.not_lt_zero s))
  rw [am_sA_id, nI_0] at this
  exact this
/-- the reference begins anew -/
theorem sp_11_begins {c o : Bool} {al : Nat → Bool} (h8 : am_I σ 16 28 = am_bI c) (h9 : am_I σ 16 29 = am_bI o) (h30 : ∀ t, t < T → (nI t = am_I σ 16 30) = (al t = false)) : am_C true ya_11_begins (d + 1) [.ref (am_oid 16)] σ (fun r τ => r = none ∧ mo_C τ lr_0 c o al T N ∧ mo_Fr [] [25, 27] σ τ) := by
  have e3414 : (3414 : Int32) = nI 3414 := by decide
  have eL : ∀ F : Nat → Int32, am_A (am_sA σ 16 25 F) 16 25 = F := fun F => by rw [am_A_sA, if_pos ⟨rfl, rfl⟩]
  have loop : ∀ (j i : Nat), i + j = 3414 → ∀ F : Nat → Int32, (∀ s, s < i → F s = 0) → am_T true ya_11_begins (d + 1) (fun r τ => r = none ∧ mo_C τ lr_0 c o al T N ∧ mo_Fr [] [25, 27] σ τ) 2 [some (.ref (am_oid 16)), some (.int (nI i))] [] (am_sA σ 16 25 F) := by
    intro j
    induction j with
    | zero =>
      intro i hi F hF
      have : i = 3414 := by omega
      subst this
      refine kb_11_begins_2 (kt := fun _ => ?_) (kf := fun z => absurd (by rw [e3414]; exact nI_le (by omega) (by omega)) z)
      have hG : ∀ j, j < 3414 → upd (upd F 6 (-2)) 7 (-2) j = if j = 6 ∨ j = 7 then -2 else 0 := fun j hj => by
        by_cases c7 : j = 7
        · rw [c7, upd_s]; rfl
        · rw [upd_n c7]
          by_cases c6 : j = 6
          · rw [c6, upd_s]; rfl
          · rw [upd_n c6, if_neg (fun z => z.elim c6 c7)]; exact hF j hj
      refine kb_11_begins_22 (hC := by
        rw [am_sA_sA, am_sA_sA, eL]
        exact sp_11_laysPoints (P := 0) (st := fun _ => 0) (by rw [eL, hG 0 (by omega)]; rfl) (by omega) (fun i hi => absurd hi (Nat.not_lt_zero i)) (fun i j hi => absurd hi (Nat.not_lt_zero i))) (k := fun r τ hr => ?_)
      obtain ⟨rfl, F', hτ, hPo⟩ := hr
      have k25 : am_A τ 16 25 = upd (upd F 6 (-2)) 7 (-2) := by rw [hτ, am_A_sA, if_neg (by simp), eL]
      have k27 : am_A τ 16 27 = F' := by rw [hτ, am_A_sA, if_pos ⟨rfl, rfl⟩]
      have FF : mo_Fr [] [25, 27] σ τ := by rw [hτ]; exact (mo_Fr.rf.sA (by rfl) _).sA (by rfl) _
      refine kb_11_begins_44 (hq := ⟨rfl, ⟨⟨⟨Nat.zero_le _, Nat.zero_le _, ?_, ?_, fun i hi => absurd hi (Nat.not_lt_zero i), fun i hi => absurd hi (Nat.not_lt_zero i)⟩, fun i hi => absurd hi (Nat.not_lt_zero i), by rw [k27]; exact hPo⟩, ⟨Nat.zero_le _, ?_, fun i hi => absurd hi (Nat.not_lt_zero i), fun i hi => absurd hi (Nat.not_lt_zero i)⟩, ?_, ?_, ?_, ?_, ?_, by rw [FF.1 28 rfl]; exact h8, by rw [FF.1 29 rfl]; exact h9, fun t ht => by rw [FF.1 30 rfl]; exact h30 t ht⟩, FF⟩)
      · rw [k25, hG 0 (by omega)]; rfl
      · rw [k25, hG 1 (by omega)]; rfl
      · rw [k25, hG 2 (by omega)]; rfl
      · rw [k25, hG 4 (by omega)]; rfl
      · rw [k25, hG 3 (by omega)]; rfl
      · rw [k25, hG 5 (by omega)]; rfl
      · rw [k25, hG 6 (by omega)]; rfl
      · rw [k25, hG 7 (by omega)]; rfl
    | succ j ih =>
      intro i hi F hF
      refine kb_11_begins_2 (kt := fun z => absurd z (by rw [e3414]; exact nI_ge (by omega) (by omega))) (kf := fun _ => ?_)
      refine kb_11_begins_9 (hi0 := vp_in_nI (by omega) (by omega)) (k := ?_)
      rw [nI_clamp (show i < 2 ^ 31 by omega), nI_1, eL, am_sA_sA]
      refine ih (i + 1) (by omega) _ (fun s hs => ?_)
      by_cases c : s = i
      · rw [c, upd_s]
      · rw [upd_n c]; exact hF s (by omega)
  refine am_enter rfl (by simp [Value.category]) (Nat.le_of_ble_eq_true rfl) (kb_11_begins_0 (k := ?_))
  have := loop 3414 0 (by omega) (am_A σ 16 25) (fun s hs => absurd hs (Nat.not_lt_zero s))
  rw [am_sA_id, nI_0] at this
  exact this
theorem lf_m_bt {w : Option Nat} (hT : T ≤ 16) (hw : ∀ t, w = some t → t < T) : ∀ t, t < T → (nI t = am_oI (-1) w) = (bt (lf_m T w) t = false) := by
  intro t ht
  have ha : bt (tg_al T) t = true := by rw [tg_al_bt T hT t (by omega)]; exact decide_eq_true ht
  cases w with
  | none =>
    show (nI t = -1) = (bt (tg_al T) t = false)
    rw [ha]
    exact propext ⟨fun z => absurd z (nI_neg1 t (by omega)), fun z => by cases z⟩
  | some s =>
    have hs := hw s rfl
    show (nI t = nI s) = (bt (tg_al T &&& ((1 <<< (nI s &&& 31)) ^^^ -1)) t = false)
    rw [b_and, ha, b_xor, b_m1 t (by omega), b_one (by omega) (by omega), Bool.true_and]
    refine propext ⟨fun z => ?_, fun z => ?_⟩
    · have : t = s := nI_inj (by omega) (by omega) z
      rw [decide_eq_true this]; rfl
    · by_cases c : t = s
      · rw [c]
      · rw [decide_eq_false c] at z; cases z
abbrev mo_TF := mo_Fr [33] [25, 26, 27, 31, 32, 34, 35]
theorem sp_11_tries {y : lr_T} {care order : Bool} {al : Nat → Bool} (h : mo_C σ y care order al T N) (h30 : am_I σ 16 30 = -1) (hW : mo_Wo σ N K T tb fl nx) (c o : Bool) {w : Option Nat} (hw : ∀ t, w = some t → t < T) {j : Nat} (hj : j < 4) : am_C true ya_11_tries (d + 24) [.ref (am_oid 16), .int (am_bI c), .int (am_bI o), .int (am_oI (-1) w), .int (nI j)] σ (fun r τ => r = some (.int (lf_f (lf_y N K T tb fl nx c o w) j)) ∧ mo_C τ y care order al T N ∧ mo_TF σ τ) := by
  have hT := hW.2.2.1
  have e3414 : (3414 : Int32) = nI 3414 := by decide
  generalize hQ : (fun (r : Option Value) (τ : am_St) => r = some (.int (lf_f (lf_y N K T tb fl nx c o w) j)) ∧ mo_C τ y care order al T N ∧ mo_TF σ τ) = Q
  obtain ⟨Y, hY⟩ : ∃ Y, Y = lf_y N K T tb fl nx c o w := ⟨_, rfl⟩
  obtain ⟨h1, h2, hc4, hc3, hc5, hc6, hc7, hc28, hc29, hc30⟩ := id h
  have inj : ∀ i k, i < y.1.1 → k < y.1.1 → y.1.2.2.1 i = y.1.2.2.1 k → i = k := fun i k hi hk e => by
    have a := h1.2.2.1 i hi
    have b := h1.2.2.1 k hk
    rw [e, b] at a
    have := h1.1.1
    exact (nI_inj (by omega) (by omega) a).symm
  -- what was known comes back
  have back : ∀ (x7 : Int32) (υ : am_St), x7 = lf_f Y j → mo_Fr [28, 29, 30, 33] [25, 26, 27, 31, 32, 34, 35] σ υ → (∀ k, k < 3414 → am_A υ 16 26 k = am_A σ 16 25 k) → ∀ a1 a2 a3 a4 : Option Value, am_T true ya_11_tries (d + 24) Q 124 [some (.ref (am_oid 16)), a1, a2, a3, a4, some (.int (am_I σ 16 28)), some (.int (am_I σ 16 29)), some (.int x7), some (.int 0)] [] υ := by
    intro x7 υ hx7 F0 h26 a1 a2 a3 a4
    have loop : ∀ (m i : Nat), i + m = 3414 → ∀ G : Nat → Int32, (∀ k, k < i → G k = am_A σ 16 25 k) → am_T true ya_11_tries (d + 24) Q 124 [some (.ref (am_oid 16)), a1, a2, a3, a4, some (.int (am_I σ 16 28)), some (.int (am_I σ 16 29)), some (.int x7), some (.int (nI i))] [] (am_sA υ 16 25 G) := by
      intro m
      induction m with
      | zero =>
        intro i hi G hG
        have : i = 3414 := by omega
        subst this
        refine kb_11_tries_124 (kt := fun _ => ?_) (kf := fun z => absurd (by rw [e3414]; exact nI_le (by omega) (by omega)) z)
        have g25 : am_A (am_sA υ 16 25 G) 16 25 = G := by rw [am_A_sA, if_pos ⟨rfl, rfl⟩]
        have hP := h1.1.1
        refine kb_11_tries_152 (hC := sp_11_laysPoints (P := y.1.1) (st := y.1.2.2.1) (by rw [g25, hG 0 (by omega)]; exact h1.1.2.2.1) hP (fun i hi => by rw [g25, hG _ (by omega)]; exact ⟨(h1.1.2.2.2.2.1 i hi).1, (h1.1.2.2.2.2.1 i hi).2.1⟩) inj) (k := fun r ω hr => ?_)
        obtain ⟨rfl, F, hω, hPo⟩ := hr
        refine kb_11_tries_156 (hq := ?_)
        obtain ⟨φ, hφ⟩ : ∃ φ, φ = am_sI (am_sI (am_sI ω 16 28 (am_I σ 16 28)) 16 29 (am_I σ 16 29)) 16 30 (-1) := ⟨_, rfl⟩
        rw [← hφ, ← hQ]
        have f25 : am_A φ 16 25 = G := by rw [hφ]; show am_A ω 16 25 = _; rw [hω, am_A_sA, if_neg (by simp), g25]
        have f27 : am_A φ 16 27 = F := by rw [hφ]; show am_A ω 16 27 = _; rw [hω, am_A_sA, if_pos ⟨rfl, rfl⟩]
        have FF : mo_TF σ φ := by
          have Fω : mo_Fr [28, 29, 30, 33] [25, 26, 27, 31, 32, 34, 35] σ ω := by rw [hω]; exact (F0.sA (by rfl) _).sA (by rfl) _
          refine ⟨fun k hk => ?_, fun k hk => by rw [hφ]; exact Fω.2.1 k hk, by rw [hφ]; exact Fω.2.2⟩
          have hk33 : k ≠ 33 := by simpa using hk
          rw [hφ, am_I_sI]
          by_cases c30 : k = 30
          · rw [if_pos ⟨c30, rfl⟩, c30, h30]
          · rw [if_neg (fun z => c30 z.1), am_I_sI]
            by_cases c29 : k = 29
            · rw [if_pos ⟨c29, rfl⟩, c29]
            · rw [if_neg (fun z => c29 z.1), am_I_sI]
              by_cases c28 : k = 28
              · rw [if_pos ⟨c28, rfl⟩, c28]
              · rw [if_neg (fun z => c28 z.1)]
                exact Fω.1 k (by simp [c28, c29, c30, hk33])
        refine ⟨by rw [hx7, hY], ⟨⟨?_, h1.2.1, by rw [f27]; exact hPo⟩, ⟨h2.1, by rw [f25, hG 2 (by omega)]; exact h2.2.1, fun i hi f hf => ?_, h2.2.2.2⟩, by rw [f25, hG 4 (by omega)]; exact hc4, by rw [f25, hG 3 (by omega)]; exact hc3, by rw [f25, hG 5 (by omega)]; exact hc5, by rw [f25, hG 6 (by omega)]; exact hc6, by rw [f25, hG 7 (by omega)]; exact hc7, by rw [FF.1 28 rfl]; exact hc28, by rw [FF.1 29 rfl]; exact hc29, fun t ht => by rw [FF.1 30 rfl]; exact hc30 t ht⟩, FF⟩
        · obtain ⟨m1, m2, m3, m4, m5, m6⟩ := h1.1
          refine ⟨m1, m2, by rw [f25, hG 0 (by omega)]; exact m3, by rw [f25, hG 1 (by omega)]; exact m4, fun i hi => ?_, fun k hk => ?_⟩
          · rw [f25, hG _ (by omega), hG _ (by omega)]; exact m5 i hi
          · rw [f25, hG _ (by omega), hG _ (by omega)]; exact m6 k hk
        · have := h2.1
          rw [f25, hG _ (by omega)]; exact h2.2.2.1 i hi f hf
      | succ m ih =>
        intro i hi G hG
        have vi : vp_in (nI i) 3414 := vp_in_nI (by omega) (by omega)
        refine kb_11_tries_124 (kt := fun z => absurd z (by rw [e3414]; exact nI_ge (by omega) (by omega))) (kf := fun _ => ?_)
        refine kb_11_tries_132 (hi0 := vi) (hi1 := vi) (k := ?_)
        have g26 : am_A (am_sA υ 16 25 G) 16 26 = am_A υ 16 26 := by rw [am_A_sA, if_neg (by simp)]
        rw [nI_clamp (show i < 2 ^ 31 by omega), nI_1, g26, am_sA_sA, am_A_sA, if_pos ⟨rfl, rfl⟩, h26 i (by omega)]
        refine ih (i + 1) (by omega) _ (fun k hk => ?_)
        by_cases c : k = i
        · rw [c, upd_s]
        · rw [upd_n c]; exact hG k (by omega)
    have := loop 3414 0 (by omega) (am_A υ 16 25) (fun k hk => absurd hk (Nat.not_lt_zero k))
    rw [am_sA_id, nI_0] at this
    exact this
  have loop1 : ∀ (m i : Nat), i + m = 3414 → ∀ G : Nat → Int32, (∀ k, k < i → G k = am_A σ 16 25 k) → ∀ a8 : Option Value, am_T true ya_11_tries (d + 24) Q 15 [some (.ref (am_oid 16)), some (.int (am_bI c)), some (.int (am_bI o)), some (.int (am_oI (-1) w)), some (.int (nI j)), some (.int (am_I σ 16 28)), some (.int (am_I σ 16 29)), some (.int (nI i)), a8] [] (am_sA σ 16 26 G) := by
    intro m
    induction m with
    | zero =>
      intro i hi G hG a8
      have : i = 3414 := by omega
      subst this
      refine kb_11_tries_15 (kt := fun _ => ?_) (kf := fun z => absurd (by rw [e3414]; exact nI_le (by omega) (by omega)) z)
      obtain ⟨υ, hυ⟩ : ∃ υ, υ = am_sI (am_sI (am_sI (am_sA σ 16 26 G) 16 28 (am_bI c)) 16 29 (am_bI o)) 16 30 (am_oI (-1) w) := ⟨_, rfl⟩
      have F1 : mo_Fr [28, 29, 30, 33] [25, 26, 27, 31, 32, 34, 35] σ υ := by rw [hυ]; exact (((mo_Fr.rf.sA (by rfl) _).sI (by rfl) _).sI (by rfl) _).sI (by rfl) _
      have u26 : am_A υ 16 26 = G := by rw [hυ]; show am_A (am_sA σ 16 26 G) 16 26 = _; rw [am_A_sA, if_pos ⟨rfl, rfl⟩]
      refine kb_11_tries_43 (hC := by
        rw [← hυ]
        exact sp_11_begins (T := T) (N := N) (c := c) (o := o) (al := fun t => bt (lf_m T w) t) (by rw [hυ, am_I_sI, if_neg (by simp), am_I_sI, if_neg (by simp), am_I_sI, if_pos ⟨rfl, rfl⟩]) (by rw [hυ, am_I_sI, if_neg (by simp), am_I_sI, if_pos ⟨rfl, rfl⟩]) (fun t ht => by rw [hυ, am_I_sI, if_pos ⟨rfl, rfl⟩]; exact lf_m_bt hT hw t ht)) (k := fun r τ1 hr => ?_)
      obtain ⟨rfl, C1, FF1⟩ := hr
      have F2 : mo_Fr [28, 29, 30, 33] [25, 26, 27, 31, 32, 34, 35] σ τ1 := F1.tr (FF1.le (fun k _ => rfl) (fun k hk => by simp at hk ⊢; exact ⟨hk.1, hk.2.2.1⟩))
      have W1 : mo_Wo τ1 N K T tb fl nx := hW.same F2 rfl (fun k hk => by rcases hk with rfl | rfl | rfl | rfl | rfl | rfl | rfl <;> rfl)
      refine kb_11_tries_62 (hC := sp_11_rounds (d := d) (m := 100) (Nat.le_refl _) C1 W1) (k := fun r τ2 hr => ?_)
      obtain ⟨rfl, C2, FF2⟩ := hr
      have ey : (lr_rds N K T tb fl nx (fun t => bt (lf_m T w) t) c o 100 lr_0).1 = Y := by rw [hY]; rfl
      rw [ey] at C2
      have F3 : mo_Fr [28, 29, 30, 33] [25, 26, 27, 31, 32, 34, 35] σ τ2 := F2.tr (FF2.le (fun k hk => by simp at hk ⊢; exact hk.2.2.2) (fun k hk => by simp at hk ⊢; exact ⟨hk.1, hk.2.2.1, hk.2.2.2.1, hk.2.2.2.2.1, hk.2.2.2.2.2.1, hk.2.2.2.2.2.2⟩))
      have t26 : ∀ k, k < 3414 → am_A τ2 16 26 k = am_A σ 16 25 k := fun k hk => by rw [FF2.2.1 26 rfl, FF1.2.1 26 rfl, u26]; exact hG k hk
      have fin : ∀ x : Int32, x = lf_f Y j → ∀ a7 a8 : Option Value, am_T true ya_11_tries (d + 24) Q 119 [some (.ref (am_oid 16)), some (.int (am_bI c)), some (.int (am_bI o)), some (.int (am_oI (-1) w)), some (.int (nI j)), some (.int (am_I σ 16 28)), some (.int (am_I σ 16 29)), a7, a8] [.int x] τ2 := fun x hx a7 a8 => kb_11_tries_119 (k := back x τ2 hx F3 t26 _ _ _ _)
      rcases (show j = 0 ∨ j = 1 ∨ j = 2 ∨ j = 3 by omega) with rfl | rfl | rfl | rfl
      · exact kb_11_tries_68 (kt := fun z => absurd rfl z) (kf := fun _ => kb_11_tries_74 (k := fin _ C2.2.2.1 _ _))
      · exact kb_11_tries_68 (kt := fun _ => kb_11_tries_83 (kt := fun z => absurd rfl z) (kf := fun _ => kb_11_tries_89 (k := fin _ C2.2.2.2.1 _ _))) (kf := fun z => absurd z (by decide))
      · exact kb_11_tries_68 (kt := fun _ => kb_11_tries_83 (kt := fun _ => kb_11_tries_98 (kt := fun z => absurd rfl z) (kf := fun _ => kb_11_tries_104 (k := fin _ C2.1.1.2.2.1 _ _))) (kf := fun z => absurd z (by decide))) (kf := fun z => absurd z (by decide))
      · exact kb_11_tries_68 (kt := fun _ => kb_11_tries_83 (kt := fun _ => kb_11_tries_98 (kt := fun _ => kb_11_tries_113 (k := fin _ C2.2.1.2.1 _ _)) (kf := fun z => absurd z (by decide))) (kf := fun z => absurd z (by decide))) (kf := fun z => absurd z (by decide))
    | succ m ih =>
      intro i hi G hG a8
      have vi : vp_in (nI i) 3414 := vp_in_nI (by omega) (by omega)
      refine kb_11_tries_15 (kt := fun z => absurd z (by rw [e3414]; exact nI_ge (by omega) (by omega))) (kf := fun _ => ?_)
      refine kb_11_tries_23 (hi0 := vi) (hi1 := vi) (k := ?_)
      have g25 : am_A (am_sA σ 16 26 G) 16 25 = am_A σ 16 25 := by rw [am_A_sA, if_neg (by simp)]
      rw [nI_clamp (show i < 2 ^ 31 by omega), nI_1, g25, am_sA_sA, am_A_sA, if_pos ⟨rfl, rfl⟩]
      refine ih (i + 1) (by omega) _ (fun k hk => ?_) _
      by_cases c : k = i
      · rw [c, upd_s]
      · rw [upd_n c]; exact hG k (by omega)
  refine am_enter rfl (by simp [Value.category]) (Nat.le_of_ble_eq_true rfl) (kb_11_tries_0 (k := ?_))
  have := loop1 3414 0 (by omega) (am_A σ 16 26) (fun k hk => absurd hk (Nat.not_lt_zero k)) none
  rw [am_sA_id, nI_0] at this
  exact this
end CIF
