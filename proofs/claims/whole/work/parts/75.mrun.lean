/-! THE REFERENCE: many, stepsFrom, drawn, startAt, leadAt, isToldGood, run -/
def mo_Fm (is as : List Nat) (σ τ : am_St) : Prop := (∀ k, is.contains k = false → am_I τ 16 k = am_I σ 16 k) ∧ ∀ k, as.contains k = false → am_A τ 16 k = am_A σ 16 k
theorem mo_Fm.rf {is as : List Nat} {σ : am_St} : mo_Fm is as σ σ := ⟨fun _ _ => rfl, fun _ _ => rfl⟩
theorem mo_Fm.tr {is as : List Nat} {σ τ υ : am_St} (h : mo_Fm is as σ τ) (h' : mo_Fm is as τ υ) : mo_Fm is as σ υ := ⟨fun k hk => (h'.1 k hk).trans (h.1 k hk), fun k hk => (h'.2 k hk).trans (h.2 k hk)⟩
theorem mo_Fm.sI {is as : List Nat} {σ τ : am_St} (h : mo_Fm is as σ τ) {k : Nat} (hk : is.contains k = true) (x : Int32) : mo_Fm is as σ (am_sI τ 16 k x) := ⟨fun j hj => by rw [am_I_sI, if_neg (fun z => by rw [z.1, hk] at hj; cases hj)]; exact h.1 j hj, fun j hj => h.2 j hj⟩
theorem mo_Fm.sA {is as : List Nat} {σ τ : am_St} (h : mo_Fm is as σ τ) {k : Nat} (hk : as.contains k = true) (f : Nat → Int32) : mo_Fm is as σ (am_sA τ 16 k f) := ⟨fun j hj => h.1 j hj, fun j hj => by rw [am_A_sA, if_neg (fun z => by rw [z.1, hk] at hj; cases hj)]; exact h.2 j hj⟩
theorem mo_Fm.sJ {is as : List Nat} {σ τ : am_St} (h : mo_Fm is as σ τ) (x : Int64) : mo_Fm is as σ (am_sJ τ 16 x) := h
theorem mo_Fm.le {is as is' as' : List Nat} {σ τ : am_St} (h : mo_Fm is as σ τ) (hi : ∀ k, is'.contains k = false → is.contains k = false) (ha : ∀ k, as'.contains k = false → as.contains k = false) : mo_Fm is' as' σ τ := ⟨fun k hk => h.1 k (hi k hk), fun k hk => h.2 k (ha k hk)⟩
theorem mo_Fr.fm {is as : List Nat} {σ τ : am_St} (h : mo_Fr is as σ τ) : mo_Fm is as σ τ := ⟨h.1, h.2.1⟩
def mn_p (tb : Nat → Int32) (fl : Nat → Nat → Bool) (n : Nat) (nd : Nat → Nat → Int32) (x : Int32) : Nat → Bool := fun s => if x = 0 then true else if x = 1 then fl s 0 else if x = 2 then fl s 1 else if x = 3 then fl s 2 else if x = 4 then fl s 3 else tr_hd n nd (tb s)
section MRUN
variable {d N K T : Nat} {order care : Bool} {al : Nat → Bool} {tb : Nat → Int32} {fl : Nat → Nat → Bool} {nx : Nat → Nat → Option Nat} {σ : am_St} {n : Nat} {nd : Nat → Nat → Int32}
theorem mo_Wo.s0 (hW : mo_Wo σ N K T tb fl nx) (x : Int32) : mo_Wo (am_sI σ 16 0 x) N K T tb fl nx := hW.same (is := [0]) (as := []) (mo_Fr.rf.sI (by rfl) x) rfl (fun k hk => by rcases hk with rfl | rfl | rfl | rfl | rfl | rfl | rfl <;> rfl)
theorem sp_11_many (hW : mo_Wo σ N K T tb fl nx) (hn : mo_Nd (am_A σ 16 25) n nd) (x : Int32) : am_C true ya_11_many (d + 2) [.ref (am_oid 16), .int x] σ (fun r τ => τ = am_sI σ 16 0 0 ∧ r = some (.int (if x < 0 ∨ ¬ x ≤ 5 then -1 else nI (am_cn (mn_p tb fl n nd x) N)))) := by
  have hW0 := hW.s0 0
  obtain ⟨w1, w2, w3, w4, w5, w6, w7, w8⟩ := id hW0
  obtain ⟨σ', hσ'⟩ : ∃ σ', σ' = am_sI σ 16 0 0 := ⟨_, rfl⟩
  rw [← hσ'] at w4 w5 w6 w7 w8 hW0
  have hn' : mo_Nd (am_A σ' 16 25) n nd := by rw [hσ']; exact hn
  refine am_enter rfl (by simp [Value.category]) (Nat.le_of_ble_eq_true rfl) ?_
  rw [← hσ']
  have out : (x < 0 ∨ ¬ x ≤ 5) → ∀ a2 a3 a4 : Option Value, am_T true ya_11_many (d + 2) (fun r τ => τ = σ' ∧ r = some (.int (if x < 0 ∨ ¬ x ≤ 5 then -1 else nI (am_cn (mn_p tb fl n nd x) N)))) 14 [some (.ref (am_oid 16)), some (.int x), a2, a3, a4] [] σ' := fun h a2 a3 a4 => kb_11_many_14 ⟨rfl, by rw [if_pos h]⟩
  by_cases hx0 : x < 0
  · exact kb_11_many_0 (kt := fun _ => by rw [← hσ']; exact out (Or.inl hx0) _ _ _) (kf := fun z => absurd hx0 z)
  by_cases hx5 : x ≤ 5
  · have eF : ¬ (x < 0 ∨ ¬ x ≤ 5) := fun z => z.elim hx0 (fun z => z hx5)
    rw [if_neg eF]
    obtain ⟨p, hp⟩ : ∃ p, p = mn_p tb fl n nd x := ⟨_, rfl⟩
    rw [← hp]
    have loop : ∀ (j i : Nat), i + j = N → ∀ a4 : Option Value, am_T true ya_11_many (d + 2) (fun r τ => τ = σ' ∧ r = some (.int (nI (am_cn p N)))) 20 [some (.ref (am_oid 16)), some (.int x), some (.int (nI (am_cn p i))), some (.int (nI i)), a4] [] σ' := by
      intro j
      induction j with
      | zero =>
        intro i hi a4
        have : i = N := by omega
        subst this
        exact kb_11_many_20 (kt := fun _ => kb_11_many_127 ⟨rfl, rfl⟩) (kf := fun z => absurd (by rw [w4]; exact nI_le (by omega) (by omega)) z)
      | succ j ih =>
        intro i hi a4
        obtain ⟨g1, g2, g3, g4, g5⟩ := w7 i (by omega)
        have v : vp_in (nI i) 600 := vp_in_nI (by omega) (by omega)
        have c : (nI i).toNatClampNeg = i := nI_clamp (by omega)
        have next := ih (i + 1) (by omega)
        rw [← nI_cn] at next
        have yes : p i = true → am_T true ya_11_many (d + 2) (fun r τ => τ = σ' ∧ r = some (.int (nI (am_cn p N)))) 101 [some (.ref (am_oid 16)), some (.int x), some (.int (nI (am_cn p i))), some (.int (nI i)), a4] [] σ' := fun h => by
          rw [h] at next
          refine kb_11_many_101 (k := kb_11_many_106 (kt := fun z => absurd z (by decide)) (kf := fun _ => kb_11_many_114 (k := kb_11_many_119 (k := ?_))))
          rw [nI_1 i]
          exact next _
        have no : p i = false → am_T true ya_11_many (d + 2) (fun r τ => τ = σ' ∧ r = some (.int (nI (am_cn p N)))) 105 [some (.ref (am_oid 16)), some (.int x), some (.int (nI (am_cn p i))), some (.int (nI i)), a4] [] σ' := fun h => by
          rw [h] at next
          refine kb_11_many_105 (k := kb_11_many_106 (kt := fun _ => kb_11_many_118 (k := kb_11_many_119 (k := ?_))) (kf := fun z => absurd rfl z))
          rw [nI_1 i]
          exact next _
        refine kb_11_many_20 (kt := fun z => absurd z (by rw [w4]; exact nI_ge (by omega) (by omega))) (kf := fun _ => ?_)
        refine kb_11_many_28 (kt := fun z => yes (by rw [hp]; unfold mn_p; rw [if_pos z])) (kf := fun z0 => ?_)
        have s88 : ¬ x = 1 → ¬ x = 2 → ¬ x = 3 → ¬ x = 4 → am_T true ya_11_many (d + 2) (fun r τ => τ = σ' ∧ r = some (.int (nI (am_cn p N)))) 88 [some (.ref (am_oid 16)), some (.int x), some (.int (nI (am_cn p i))), some (.int (nI i)), a4] [] σ' := fun z1 z2 z3 z4 => by
          have ep : p i = tr_hd n nd (tb i) := by rw [hp]; unfold mn_p; rw [if_neg z0, if_neg z1, if_neg z2, if_neg z3, if_neg z4]
          refine kb_11_many_88 (kt := fun z => ?_) (kf := fun z5 => ?_)
          · exfalso
            have := (by decide : ∀ q : Fin 6, True)
            obtain ⟨q, hq, hxq⟩ := nI_of2 (M := 5) (n := 5) (by decide) hx0 hx5
            have : q = 0 ∨ q = 1 ∨ q = 2 ∨ q = 3 ∨ q = 4 ∨ q = 5 := by omega
            rcases this with rfl | rfl | rfl | rfl | rfl | rfl
            · exact z0 hxq
            · exact z1 hxq
            · exact z2 hxq
            · exact z3 hxq
            · exact z4 hxq
            · exact z hxq
          · refine kb_11_many_93 (hC := sp_11_isHeld hn' (show i < 600 by omega) g1) (k := fun r τ hr => ?_)
            obtain ⟨rfl, rfl⟩ := hr
            refine kb_11_many_98 (kt := fun z => no (by rw [ep]; rw [am_bI_0] at z; exact z)) (kf := fun z => yes (by rw [ep]; rw [am_bI_0] at z; simpa using z))
        have s74 : ¬ x = 1 → ¬ x = 2 → ¬ x = 3 → am_T true ya_11_many (d + 2) (fun r τ => τ = σ' ∧ r = some (.int (nI (am_cn p N)))) 74 [some (.ref (am_oid 16)), some (.int x), some (.int (nI (am_cn p i))), some (.int (nI i)), a4] [] σ' := fun z1 z2 z3 => by
          refine kb_11_many_74 (kt := fun z4 => s88 z1 z2 z3 z4) (kf := fun z4 => ?_)
          have ep : p i = fl i 3 := by rw [hp]; unfold mn_p; rw [if_neg z0, if_neg z1, if_neg z2, if_neg z3, if_pos z4]
          refine kb_11_many_79 (hi0 := v) (kt := fun z => yes ?_) (kf := fun z => ?_)
          · rw [c, g5, am_bI_0] at z; rw [ep]; simpa using z
          · rw [c, g5, am_bI_0] at z
            refine kb_11_many_88 (kt := fun _ => no (by rw [ep]; exact z)) (kf := fun z5 => absurd (z4.symm.trans z5) (by decide))
        have s60 : ¬ x = 1 → ¬ x = 2 → am_T true ya_11_many (d + 2) (fun r τ => τ = σ' ∧ r = some (.int (nI (am_cn p N)))) 60 [some (.ref (am_oid 16)), some (.int x), some (.int (nI (am_cn p i))), some (.int (nI i)), a4] [] σ' := fun z1 z2 => by
          refine kb_11_many_60 (kt := fun z3 => s74 z1 z2 z3) (kf := fun z3 => ?_)
          have ep : p i = fl i 2 := by rw [hp]; unfold mn_p; rw [if_neg z0, if_neg z1, if_neg z2, if_pos z3]
          refine kb_11_many_65 (hi0 := v) (kt := fun z => yes ?_) (kf := fun z => ?_)
          · rw [c, g4, am_bI_0] at z; rw [ep]; simpa using z
          · rw [c, g4, am_bI_0] at z
            refine kb_11_many_74 (kt := fun _ => kb_11_many_88 (kt := fun _ => no (by rw [ep]; exact z)) (kf := fun z5 => absurd (z3.symm.trans z5) (by decide))) (kf := fun z5 => absurd (z3.symm.trans z5) (by decide))
        refine kb_11_many_32 (kt := fun z1 => ?_) (kf := fun z1 => ?_)
        · refine kb_11_many_46 (kt := fun z2 => s60 z1 z2) (kf := fun z2 => ?_)
          have ep : p i = fl i 1 := by rw [hp]; unfold mn_p; rw [if_neg z0, if_neg z1, if_pos z2]
          refine kb_11_many_51 (hi0 := v) (kt := fun z => yes ?_) (kf := fun z => ?_)
          · rw [c, g3, am_bI_0] at z; rw [ep]; simpa using z
          · rw [c, g3, am_bI_0] at z
            refine kb_11_many_60 (kt := fun _ => kb_11_many_74 (kt := fun _ => kb_11_many_88 (kt := fun _ => no (by rw [ep]; exact z)) (kf := fun z5 => absurd (z2.symm.trans z5) (by decide))) (kf := fun z5 => absurd (z2.symm.trans z5) (by decide))) (kf := fun z5 => absurd (z2.symm.trans z5) (by decide))
        · have ep : p i = fl i 0 := by rw [hp]; unfold mn_p; rw [if_neg z0, if_pos z1]
          refine kb_11_many_37 (hi0 := v) (kt := fun z => yes ?_) (kf := fun z => ?_)
          · rw [c, g2, am_bI_0] at z; rw [ep]; simpa using z
          · rw [c, g2, am_bI_0] at z
            refine kb_11_many_46 (kt := fun _ => kb_11_many_60 (kt := fun _ => kb_11_many_74 (kt := fun _ => kb_11_many_88 (kt := fun _ => no (by rw [ep]; exact z)) (kf := fun z5 => absurd (z1.symm.trans z5) (by decide))) (kf := fun z5 => absurd (z1.symm.trans z5) (by decide))) (kf := fun z5 => absurd (z1.symm.trans z5) (by decide))) (kf := fun z5 => absurd (z1.symm.trans z5) (by decide))
    refine kb_11_many_0 (kt := fun z => absurd z hx0) (kf := fun _ => kb_11_many_9 (kt := fun _ => kb_11_many_16 (k := ?_)) (kf := fun z => absurd hx5 z))
    rw [← hσ']
    have := loop N 0 (by omega) none
    rw [show am_cn p 0 = 0 from rfl, nI_0] at this
    exact this
  · exact kb_11_many_0 (kt := fun z => absurd z hx0) (kf := fun _ => by rw [← hσ']; exact kb_11_many_9 (kt := fun z => absurd z hx5) (kf := fun _ => out (Or.inr hx5) _ _ _))
theorem sp_11_stepsFrom (hW : mo_Wo σ N K T tb fl nx) {s : Nat} (hs : s < N) : am_C true ya_11_stepsFrom d [.ref (am_oid 16), .int (nI s)] σ (fun r τ => τ = σ ∧ r = some (.int (nI (nx_cn nx K s)))) := by
  obtain ⟨w1, w2, w3, w4, w5, w6, w7, w8⟩ := id hW
  unfold nx_cn
  have loop : ∀ (j i : Nat), i + j = K → am_T true ya_11_stepsFrom d (fun r τ => τ = σ ∧ r = some (.int (nI (am_cn (fun k => (nx s k).isSome) K)))) 4 [some (.ref (am_oid 16)), some (.int (nI s)), some (.int (nI (am_cn (fun k => (nx s k).isSome) i))), some (.int (nI i))] [] σ := by
    intro j
    induction j with
    | zero =>
      intro i hi
      have : i = K := by omega
      subst this
      exact kb_11_stepsFrom_4 (kt := fun _ => kb_11_stepsFrom_43 ⟨rfl, rfl⟩) (kf := fun z => absurd (by rw [w5]; exact nI_le (by omega) (by omega)) z)
    | succ j ih =>
      intro i hi
      obtain ⟨g1, g2⟩ := w8 s hs i (by omega)
      have eT : am_A σ 16 23 (8 * nI s + nI i).toNatClampNeg = am_oI (-1) (nx s i) := by rw [am_ix8', nI_clamp (by omega)]; exact g1
      have next := ih (i + 1) (by omega)
      rw [← nI_cn] at next
      refine kb_11_stepsFrom_4 (kt := fun z => absurd z (by rw [w5]; exact nI_ge (by omega) (by omega))) (kf := fun _ => ?_)
      refine kb_11_stepsFrom_14 (hi0 := by rw [am_ix8']; exact vp_in_nI (by omega) (by omega)) (kt := fun z => ?_) (kf := fun z => ?_)
      · rw [eT, am_oI_m1 g2 w1] at z
        have e : (nx s i).isSome = true := by cases h : nx s i with
          | none => exact absurd h z
          | some t => rfl
        rw [e] at next
        refine kb_11_stepsFrom_34 (k := kb_11_stepsFrom_35 (k := ?_))
        rw [nI_1 i]; exact next
      · rw [eT, am_oI_m1 g2 w1] at z
        rw [z] at next
        refine kb_11_stepsFrom_30 (k := kb_11_stepsFrom_35 (k := ?_))
        rw [nI_1 i]; exact next
  refine am_enter rfl (by simp [Value.category]) (Nat.le_of_ble_eq_true rfl) (kb_11_stepsFrom_0 (k := ?_))
  have := loop K 0 (by omega)
  rw [show am_cn (fun k => (nx s k).isSome) 0 = 0 from rfl, nI_0] at this
  exact this
theorem sp_11_drawn {sd c : Nat} (hs : sd < 2 ^ 31) (hJ : am_J σ 16 = lN sd) (hc : 0 < c) (hc2 : c < 2 ^ 31) : am_C true ya_11_drawn d [.ref (am_oid 16), .int (nI c)] σ (fun r τ => r = some (.int (nI (dr_v sd c))) ∧ τ = am_sJ σ 16 (lN (dr_sd sd))) := by
  have hl := nI_l hc2
  have hb : sd * 1103515245 + 12345 < 2 ^ 63 := by omega
  have e1 : am_J σ 16 * 1103515245 + 12345 - (am_J σ 16 * 1103515245 + 12345) / 2147483648 * 2147483648 = lN (dr_sd sd) := by
    rw [hJ, dr_lin, show (2147483648 : Int64) = lN 2147483648 from rfl, pk_lRem hb (by decide) (by decide)]; rfl
  have hd := dr_sd_lt sd
  refine am_enter rfl (by simp [Value.category]) (Nat.le_of_ble_eq_true rfl) ?_
  refine kb_11_drawn_0 (hz0 := ?_) (hq := ⟨?_, ?_⟩)
  · rw [hl, show (0 : Int64) = lN 0 from rfl, lN_eq hc2 (by decide)]; omega
  · rw [e1, show (65536 : Int64) = lN 65536 from rfl, pk_lDiv (by omega) (by decide) (by decide), hl, pk_lRem (by omega) hc (by omega), lN_i]; rfl
  · rw [e1]
theorem sp_11_startAt (hW : mo_Wo σ N K T tb fl nx) {i x : Nat} (hi : i < 2 ^ 31) (hx : am_nth (fun s => fl s 0) N 0 i = some x) : am_C true ya_11_startAt d [.ref (am_oid 16), .int (nI i)] σ (fun r τ => τ = σ ∧ r = some (.int (nI x))) := by
  obtain ⟨w1, w2, w3, w4, w5, w6, w7, w8⟩ := id hW
  have loop : ∀ (j s i : Nat), s + j = N → i < 2 ^ 31 → am_nth (fun s => fl s 0) j s i = some x → ∀ a1 : Int32, am_T true ya_11_startAt d (fun r τ => τ = σ ∧ r = some (.int (nI x))) 4 [some (.ref (am_oid 16)), some (.int a1), some (.int (nI i)), some (.int (nI s))] [] σ := by
    intro j
    induction j with
    | zero => intro s i hs hi hx; cases hx
    | succ j ih =>
      intro s i hs hi hx a1
      have eF : am_A σ 16 19 (nI s).toNatClampNeg = am_bI (fl s 0) := by rw [nI_clamp (by omega)]; exact (w7 s (by omega)).2.1
      have hx' : (if fl s 0 = true then (if i = 0 then some s else am_nth (fun s => fl s 0) j (s + 1) (i - 1)) else am_nth (fun s => fl s 0) j (s + 1) i) = some x := hx
      refine kb_11_startAt_4 (kt := fun z => absurd z (by rw [w4]; exact nI_ge (by omega) (by omega))) (kf := fun _ => ?_)
      refine kb_11_startAt_12 (hi0 := vp_in_nI (by omega) (by omega)) (kt := fun z => ?_) (kf := fun z => ?_)
      · rw [eF, am_bI_0] at z
        rw [if_pos (by simpa using z)] at hx'
        refine kb_11_startAt_24 (kt := fun y => ?_) (kf := fun y => ?_)
        · rw [nI_eq0 hi] at y
          rw [if_neg y] at hx'
          refine kb_11_startAt_30 (k := kb_11_startAt_33 (k := ?_))
          have e : nI i + -1 = nI (i - 1) := by rw [← nI_dec (i - 1), show i - 1 + 1 = i by omega]
          rw [nI_1, e]
          exact ih (s + 1) (i - 1) (by omega) (by omega) hx' _
        · rw [nI_eq0 hi] at y
          rw [if_pos y] at hx'
          injection hx' with hx'
          subst hx'
          exact kb_11_startAt_28 ⟨rfl, rfl⟩
      · rw [eF, am_bI_0] at z
        rw [if_neg (by rw [z]; decide)] at hx'
        refine kb_11_startAt_21 (k := kb_11_startAt_33 (k := ?_))
        rw [nI_1]
        exact ih (s + 1) i (by omega) hi hx' _
  refine am_enter rfl (by simp [Value.category]) (Nat.le_of_ble_eq_true rfl) (kb_11_startAt_0 (k := ?_))
  have := loop N 0 i (by omega) hi hx (nI i)
  rw [nI_0] at this
  exact this
theorem sp_11_leadAt (hW : mo_Wo σ N K T tb fl nx) {s i : Nat} (hs : s < N) (hi : i < nx_cn nx K s) : am_C true ya_11_leadAt d [.ref (am_oid 16), .int (nI s), .int (nI i)] σ (fun r τ => τ = σ ∧ r = some (.int (nI (nx_at nx K s i)))) := by
  obtain ⟨w1, w2, w3, w4, w5, w6, w7, w8⟩ := id hW
  obtain ⟨k0, hk0, hn, hxk, hlt⟩ := nx_at_lt (fun k hk => (w8 s hs k hk).2) hi
  have hcn := am_cn_le (fun k => (nx s k).isSome) K
  have hi2 : i < 2 ^ 31 := by unfold nx_cn at hi; omega
  obtain ⟨t0, ht0⟩ : ∃ t0, t0 = nx_at nx K s i := ⟨_, rfl⟩
  rw [← ht0] at hxk hlt ⊢
  have loop : ∀ (j k i : Nat), k + j = K → i < 2 ^ 31 → am_nth (fun k => (nx s k).isSome) j k i = some k0 → ∀ (a2 : Int32), am_T true ya_11_leadAt d (fun r τ => τ = σ ∧ r = some (.int (nI t0))) 5 [some (.ref (am_oid 16)), some (.int (nI s)), some (.int a2), some (.int (nI i)), some (.int (nI k))] [] σ := by
    intro j
    induction j with
    | zero => intro k i hk hi hx; cases hx
    | succ j ih =>
      intro k i hk hi hx a2
      obtain ⟨g1, g2⟩ := w8 s hs k (by omega)
      have v : vp_in (8 * nI s + nI k) 4800 := by rw [am_ix8']; exact vp_in_nI (by omega) (by omega)
      have eT : am_A σ 16 23 (8 * nI s + nI k).toNatClampNeg = am_oI (-1) (nx s k) := by rw [am_ix8', nI_clamp (by omega)]; exact g1
      have hx' : (if (nx s k).isSome = true then (if i = 0 then some k else am_nth (fun k => (nx s k).isSome) j (k + 1) (i - 1)) else am_nth (fun k => (nx s k).isSome) j (k + 1) i) = some k0 := hx
      refine kb_11_leadAt_5 (kt := fun z => absurd z (by rw [w5]; exact nI_ge (by omega) (by omega))) (kf := fun _ => ?_)
      refine kb_11_leadAt_16 (hi0 := v) (kt := fun z => ?_) (kf := fun z => ?_)
      · rw [eT, am_oI_m1 g2 w1] at z
        cases hc : nx s k with
        | none => exact absurd hc z
        | some t =>
          rw [hc, if_pos (show (some t).isSome = true from rfl)] at hx'
          refine kb_11_leadAt_35 (kt := fun y => ?_) (kf := fun y => ?_)
          · rw [nI_eq0 hi] at y
            rw [if_neg y] at hx'
            refine kb_11_leadAt_52 (k := kb_11_leadAt_55 (k := ?_))
            have e : nI i + -1 = nI (i - 1) := by rw [← nI_dec (i - 1), show i - 1 + 1 = i by omega]
            rw [nI_1, e]
            exact ih (k + 1) (i - 1) (by omega) (by omega) hx' _
          · rw [nI_eq0 hi] at y
            rw [if_pos y] at hx'
            injection hx' with hx'
            subst hx'
            refine kb_11_leadAt_39 (hi0 := v) (hq := ⟨rfl, ?_⟩)
            rw [eT, hxk]
            rfl
      · rw [eT, am_oI_m1 g2 w1] at z
        rw [z] at hx'
        refine kb_11_leadAt_32 (k := kb_11_leadAt_55 (k := ?_))
        rw [nI_1]
        exact ih (k + 1) i (by omega) hi hx' _
  refine am_enter rfl (by simp [Value.category]) (Nat.le_of_ble_eq_true rfl) (kb_11_leadAt_0 (k := ?_))
  have := loop K 0 i (by omega) hi2 hn (nI i)
  rw [nI_0] at this
  exact this
theorem sp_11_isToldGood {x : sm_T} {s : Nat} (h : mo_X σ x N) (hs : s < 600) : am_C true ya_11_isToldGood d [.ref (am_oid 16), .int (nI s)] σ (fun r τ => τ = σ ∧ r = some (.int (am_bI (tg_gd x s)))) := by
  obtain ⟨⟨hP, hq, k0, k1, hpt, hpr⟩, hst, hpo⟩ := h
  have v : vp_in (nI s) 600 := vp_in_nI (by omega) (by omega)
  have c : (nI s).toNatClampNeg = s := nI_clamp (by omega)
  refine am_enter rfl (by simp [Value.category]) (Nat.le_of_ble_eq_true rfl) ?_
  rcases hpo.find hs with ⟨i, c0, c1, c2, c3⟩ | ⟨c2, c1, c3⟩
  · have eg : tg_gd x s = am_bt 1 (nI (x.2.2.2.1 i)) := by unfold tg_gd; rw [c3]
    obtain ⟨p1, p2, p3, p4⟩ := hpt i c0
    have x1 : (208 : Int32) + am_A σ 16 27 (nI s).toNatClampNeg = nI (208 + i) := by rw [c, c2]; exact nI_add 208 i
    have y1 : am_A σ 16 25 ((208 : Int32) + am_A σ 16 27 (nI s).toNatClampNeg).toNatClampNeg = nI (x.2.2.2.1 i) := by rw [x1, nI_clamp (by omega)]; exact p3
    refine kb_11_isToldGood_0 (hi0 := v) (kt := fun z => absurd z (by rw [c, c2]; exact nI_neg1 i (by omega))) (kf := fun _ => ?_)
    refine kb_11_isToldGood_10 (hi0 := v) (hi1 := by rw [x1]; exact vp_in_nI (by omega) (by omega)) (kt := fun z => ?_) (kf := fun z => ?_)
    · rw [y1, am_bt_0] at z
      exact kb_11_isToldGood_34 (k := kb_11_isToldGood_35 (hb0 := rfl) (hq := ⟨rfl, by rw [eg, z]; rfl⟩))
    · rw [y1, am_bt_0] at z
      exact kb_11_isToldGood_30 (k := kb_11_isToldGood_35 (hb0 := rfl) (hq := ⟨rfl, by rw [eg]; simp at z; rw [z]; rfl⟩))
  · have eg : tg_gd x s = false := by unfold tg_gd; rw [c3]
    refine kb_11_isToldGood_0 (hi0 := v) (kt := fun _ => kb_11_isToldGood_34 (k := kb_11_isToldGood_35 (hb0 := rfl) (hq := ⟨rfl, by rw [eg]; rfl⟩))) (kf := fun z => absurd (by rw [c, c2]) z)
theorem mo_C.fm {y : lr_T} {is as : List Nat} {τ : am_St} (h : mo_C σ y care order al T N) (hf : mo_Fm is as σ τ) (hi : is.contains 28 = false ∧ is.contains 29 = false ∧ is.contains 30 = false) (ha : as.contains 25 = false ∧ as.contains 27 = false) : mo_C τ y care order al T N := by
  obtain ⟨h1, h2, h3, h4, h5, h6, h7, h8, h9, h10⟩ := h
  have e25 := hf.2 25 ha.1
  have e27 := hf.2 27 ha.2
  refine ⟨h1.same (fun j _ => by rw [e25]) e27, by rw [e25]; exact h2, by rw [e25]; exact h3, by rw [e25]; exact h4, by rw [e25]; exact h5, by rw [e25]; exact h6, by rw [e25]; exact h7, by rw [hf.1 28 hi.1]; exact h8, by rw [hf.1 29 hi.2.1]; exact h9, fun t ht => by rw [hf.1 30 hi.2.2]; exact h10 t ht⟩
theorem mo_Wo.fm {is as : List Nat} {τ : am_St} (h : mo_Wo σ N K T tb fl nx) (hf : mo_Fm is as σ τ) (hi : is.contains 17 = false) (ha : (∀ k, k = 3 ∨ k = 18 ∨ k = 19 ∨ k = 20 ∨ k = 21 ∨ k = 22 ∨ k = 23 → as.contains k = false)) : mo_Wo τ N K T tb fl nx := by
  obtain ⟨h1, h2, h3, h4, h5, h6, h7, h8⟩ := h
  have e := fun k hk => hf.2 k (ha k hk)
  refine ⟨h1, h2, h3, by rw [hf.1 17 hi]; exact h4, by rw [e 3 (by simp)]; exact h5, by rw [e 3 (by simp)]; exact h6, fun s hs => ?_, fun s hs k hk => by rw [e 23 (by simp)]; exact h8 s hs k hk⟩
  rw [e 18 (by simp), e 19 (by simp), e 20 (by simp), e 21 (by simp), e 22 (by simp)]
  exact h7 s hs
/-- run as a value -/
def rn_all (N K : Nat) (fl : Nat → Nat → Bool) (nx : Nat → Nat → Option Nat) (y : lr_T) (x1 x2 : Int32) : lr_T × Int32 :=
  if x1 < 0 ∨ x2 < 0 ∨ 100 < x2 ∨ y.2.2.1 ≠ 0 then (y, -1) else (((rn_fin N K fl nx y.1 x1.toNatClampNeg x2.toNatClampNeg).1, y.2), (rn_fin N K fl nx y.1 x1.toNatClampNeg x2.toNatClampNeg).2)
abbrev mo_RN := mo_Fm [0, 33] [25, 27, 31, 32, 34, 35]
theorem sp_11_run {y : lr_T} (h : mo_C σ y care order al T N) (hW : mo_Wo σ N K T tb fl nx) (x1 x2 : Int32) : am_C true ya_11_run (d + 3) [.ref (am_oid 16), .int x1, .int x2] σ (fun r τ => r = some (.int (rn_all N K fl nx y x1 x2).2) ∧ mo_C τ (rn_all N K fl nx y x1 x2).1 care order al T N ∧ mo_RN σ τ) := by
  have w1 := hW.1
  have w2 := hW.2.1
  generalize hQ : (fun (r : Option Value) (τ : am_St) => r = some (.int (rn_all N K fl nx y x1 x2).2) ∧ mo_C τ (rn_all N K fl nx y x1 x2).1 care order al T N ∧ mo_RN σ τ) = Q
  have hc : ∀ τ, mo_Fm [0] [] σ τ → mo_C τ y care order al T N ∧ mo_Wo τ N K T tb fl nx := fun τ hf => ⟨h.fm hf ⟨rfl, rfl, rfl⟩ ⟨rfl, rfl⟩, hW.fm hf rfl (fun k hk => by rcases hk with rfl | rfl | rfl | rfl | rfl | rfl | rfl <;> rfl)⟩
  have hle : ∀ τ, mo_Fm [0] [] σ τ → mo_RN σ τ := fun τ hf => hf.le (fun k hk => by simp at hk ⊢; exact hk.1) (fun k _ => rfl)
  have hF0 : mo_Fm [0] [] σ (am_sI σ 16 0 0) := mo_Fm.rf.sI (by rfl) 0
  refine am_enter rfl (by simp [Value.category]) (Nat.le_of_ble_eq_true rfl) ?_
  refine kb_11_run_0 (hC := sp_11_many (hc _ hF0).2 (hc _ hF0).1.2.1 1) (k := fun r τ hr => ?_)
  obtain ⟨hτ, rfl⟩ := hr
  have hF1 : mo_Fm [0] [] σ τ := by rw [hτ]; exact hF0.sI (by rfl) 0
  obtain ⟨hC1, hW1⟩ := hc τ hF1
  rw [if_neg (by decide)]
  obtain ⟨b, hb⟩ : ∃ b, b = am_cn (fun s => fl s 0) N := ⟨_, rfl⟩
  have eb : am_cn (mn_p tb fl y.2.1.1 y.2.1.2 1) N = b := by
    rw [hb]; exact am_cn_congr (fun s _ => by unfold mn_p; rw [if_neg (by decide), if_pos rfl])
  rw [eb]
  have hbl : b ≤ 600 := by rw [hb]; exact Nat.le_trans (am_cn_le _ _) w1
  have out : (rn_all N K fl nx y x1 x2 = (y, -1)) → ∀ a4 a5 a6 : Option Value, am_T true ya_11_run (d + 3) Q 38 [some (.ref (am_oid 16)), some (.int x1), some (.int x2), some (.int (nI b)), a4, a5, a6] [] τ := fun e a4 a5 a6 => by
    refine kb_11_run_38 ?_
    rw [← hQ, e]
    exact ⟨rfl, hC1, hle τ hF1⟩
  have eo : (x1 < 0 ∨ x2 < 0 ∨ 100 < x2 ∨ y.2.2.1 ≠ 0) → rn_all N K fl nx y x1 x2 = (y, -1) := fun z => by unfold rn_all; rw [if_pos z]
  refine kb_11_run_10 (kt := fun z => out (eo (Or.inl z)) _ _ _) (kf := fun z1 => ?_)
  refine kb_11_run_15 (kt := fun z => out (eo (Or.inr (Or.inl z))) _ _ _) (kf := fun z2 => ?_)
  refine kb_11_run_19 (kt := fun z => out (eo (Or.inr (Or.inr (Or.inl z)))) _ _ _) (kf := fun z3 => ?_)
  have eE : am_A τ 16 25 4 = y.2.2.1 := hC1.2.2.1
  by_cases z4 : y.2.2.1 = 0
  rotate_left
  · refine kb_11_run_25 (kt := fun _ => out (eo (Or.inr (Or.inr (Or.inr z4)))) _ _ _) (kf := fun _ => kb_11_run_29 (kt := fun z => absurd (eE.symm.trans z) z4) (kf := fun _ => out (eo (Or.inr (Or.inr (Or.inr z4)))) _ _ _))
  obtain ⟨sd, hsd, rfl⟩ := nI_of z1
  obtain ⟨n, hn31, rfl⟩ := nI_of z2
  have hn : n ≤ 100 := by
    rw [show (100 : Int32) = nI 100 from rfl, nI_ltI (by decide) hn31] at z3; omega
  have eA : rn_all N K fl nx y (nI sd) (nI n) = (((rn_fin N K fl nx y.1 sd n).1, y.2), (rn_fin N K fl nx y.1 sd n).2) := by
    unfold rn_all
    rw [if_neg (fun z => by rcases z with z | z | z | z; exact z1 z; exact z2 z; exact z3 z; exact z z4), nI_clamp hsd, nI_clamp hn31]
  by_cases hb0 : b = 0
  · refine kb_11_run_25 (kt := fun _ => out ?_ _ _ _) (kf := fun z => absurd (by rw [hb0]; exact nI_0) z)
    rw [eA]; unfold rn_fin; rw [if_pos (by rw [← hb]; exact hb0)]
  refine kb_11_run_25 (kt := fun z => absurd z (nI_ne0 (by omega) (by omega))) (kf := fun _ => kb_11_run_29 (kt := fun _ => ?_) (kf := fun z => absurd (eE.trans z4) z))
  have hv : dr_v sd b < b := Nat.mod_lt _ (by omega)
  obtain ⟨s0, hs0, -, hs0', -⟩ := am_nth_some (p := fun s => fl s 0) N 0 (dr_v sd b) (by rw [am_rc_0, ← hb]; exact hv)
  have eR : rn_fin N K fl nx y.1 sd n = (match rn_go nx K (tg_gd y.1) n s0 (dr_sd sd) with | none => (y.1, -2) | some s => match te_tell y.1 s 1 with | none => (y.1, -1) | some p => (p.1, nI p.2)) := by
    unfold rn_fin; rw [if_neg (by rw [← hb]; exact hb0), ← hb, hs0]; rfl
  refine kb_11_run_40 (hC := by rw [nI_l hsd]; exact sp_11_drawn (c := b) hsd (by rw [am_J_sJ, if_pos rfl]) (by omega) (by omega)) (k := fun r τ1 hr => ?_)
  obtain ⟨rfl, hτ1⟩ := hr
  have hF2 : mo_Fm [0] [] σ τ1 := by rw [hτ1]; exact (hF1.sJ _).sJ _
  have hJ1 : am_J τ1 16 = lN (dr_sd sd) := by rw [hτ1, am_J_sJ, if_pos rfl]
  refine kb_11_run_52 (hC := sp_11_startAt (hc _ hF2).2 (by omega) hs0) (k := fun r τ2 hr => ?_)
  obtain ⟨rfl, rfl⟩ := hr
  refine kb_11_run_55 (k := ?_)
  have none' : rn_go nx K (tg_gd y.1) n s0 (dr_sd sd) = none → ∀ τ3, mo_Fm [0] [] σ τ3 → Q (some (.int (-2))) τ3 := fun e τ3 hF3 => by
    rw [e] at eR
    rw [← hQ, eA, eR]
    exact ⟨rfl, (hc _ hF3).1, hle _ hF3⟩
  have fin : ∀ (s : Nat) (τ3 : am_St), s < N → mo_Fm [0] [] σ τ3 → rn_go nx K (tg_gd y.1) n s0 (dr_sd sd) = (if tg_gd y.1 s = true then none else some s) → ∀ (a5 a6 : Option Value), am_T true ya_11_run (d + 3) Q 111 [some (.ref (am_oid 16)), some (.int (nI sd)), some (.int (nI n)), some (.int (nI b)), some (.int (nI s)), a5, a6] [] τ3 := fun s τ3 hs hF3 hgo a5 a6 => by
    obtain ⟨hC3, hW3⟩ := hc _ hF3
    have hX3 := hC3.1
    have hP := hX3.1.1
    refine kb_11_run_111 (hC := sp_11_isToldGood hX3 (show s < 600 by omega)) (k := fun r τ4 hr => ?_)
    obtain ⟨rfl, rfl⟩ := hr
    refine kb_11_run_117 (kt := fun z => ?_) (kf := fun z => kb_11_run_120 (none' ?_ _ hF3))
    · rw [am_bI_0] at z
      rw [if_neg (by rw [z]; decide)] at hgo
      rw [hgo] at eR
      dsimp only at eR
      refine kb_11_run_123 (hC := sp_11_isNew hX3 (show s < 600 by omega)) (k := fun r τ5 hr => ?_)
      obtain ⟨rfl, rfl⟩ := hr
      rw [hX3.1.2.2.1]
      rcases te_tell_iff (x := y.1) (s := s) (w := 1) hP with ⟨q1, p, q2⟩ | ⟨q1, q2⟩
      · refine kb_11_run_135 (kt := fun _ => ?_) (kf := fun u => absurd ?_ u)
        · rw [q2] at eR
          refine kb_11_run_146 (hC := sp_11_comes hX3 w1 hs (show 1 < 4 by omega) q2) (k := fun r τ6 hr => ?_)
          obtain ⟨rfl, u1, u2, u3⟩ := hr
          refine kb_11_run_153 ?_
          rw [← hQ, eA, eR]
          refine ⟨rfl, hC3.chg u1 rfl (fun j hj => u3 j (by omega)) u2 ?_ ?_ ?_ ?_ ?_, (hle _ hF3).tr (u2.fm.le (fun k hk => by simp at hk ⊢; exact hk.2) (fun k hk => hk))⟩
          · rw [u3 4 (by omega)]; exact hC3.2.2.1
          · rw [u3 3 (by omega)]; exact hC3.2.2.2.1
          · rw [u3 5 (by omega)]; exact hC3.2.2.2.2.1
          · rw [u3 6 (by omega)]; exact hC3.2.2.2.2.2.1
          · rw [u3 7 (by omega)]; exact hC3.2.2.2.2.2.2.1
        · rw [nI_add, show (200 : Int32) = nI 200 from rfl]; exact nI_le q1 (by decide)
      · have ht : te_new y.1 s ≤ 1 := by unfold te_new; split <;> omega
        refine kb_11_run_135 (kt := fun u => absurd u ?_) (kf := fun _ => ?_)
        · rw [nI_add, show (200 : Int32) = nI 200 from rfl]; exact nI_ge (by omega) (by omega)
        · rw [q2] at eR
          refine kb_11_run_142 (k := kb_11_run_153 ?_)
          rw [← hQ, eA, eR]
          exact ⟨rfl, hC3, hle _ hF3⟩
    · rw [am_bI_0] at z
      rw [hgo, if_pos (by simpa using z)]
  have loop : ∀ (j k s sd' : Nat) (τ3 : am_St), k + j = n → s < N → sd' < 2 ^ 31 → mo_Fm [0] [] σ τ3 → am_J τ3 16 = lN sd' → rn_go nx K (tg_gd y.1) n s0 (dr_sd sd) = rn_go nx K (tg_gd y.1) j s sd' → ∀ (a6 : Option Value), am_T true ya_11_run (d + 3) Q 60 [some (.ref (am_oid 16)), some (.int (nI sd)), some (.int (nI n)), some (.int (nI b)), some (.int (nI s)), some (.int (nI k)), a6] [] τ3 := by
    intro j
    induction j with
    | zero =>
      intro k s sd' τ3 hk hs hsd' hF3 hJ3 hgo a6
      exact kb_11_run_60 (kt := fun _ => fin s τ3 hs hF3 hgo _ _) (kf := fun z => absurd (nI_le (by omega) (by omega)) z)
    | succ j ih =>
      intro k s sd' τ3 hk hs hsd' hF3 hJ3 hgo a6
      obtain ⟨hC3, hW3⟩ := hc _ hF3
      have hgo' : rn_go nx K (tg_gd y.1) n s0 (dr_sd sd) = if tg_gd y.1 s = true then (if nx_cn nx K s = 0 then none else rn_go nx K (tg_gd y.1) j (nx_at nx K s (dr_v sd' (nx_cn nx K s))) (dr_sd sd')) else some s := hgo
      have hcn : nx_cn nx K s ≤ 8 := Nat.le_trans (am_cn_le _ _) w2
      refine kb_11_run_60 (kt := fun z => absurd z (nI_ge (by omega) (by omega))) (kf := fun _ => ?_)
      refine kb_11_run_66 (hC := sp_11_isToldGood hC3.1 (show s < 600 by omega)) (k := fun r τ4 hr => ?_)
      obtain ⟨rfl, rfl⟩ := hr
      refine kb_11_run_72 (kt := fun z => ?_) (kf := fun z => ?_)
      · rw [am_bI_0] at z
        refine fin s _ hs hF3 ?_ _ _
        rw [hgo', if_neg (by rw [z]; decide), if_neg (by rw [z]; decide)]
      · rw [am_bI_0] at z
        rw [if_pos (by simpa using z)] at hgo'
        refine kb_11_run_75 (hC := sp_11_stepsFrom hW3 hs) (k := fun r τ5 hr => ?_)
        obtain ⟨rfl, rfl⟩ := hr
        refine kb_11_run_81 (kt := fun u => ?_) (kf := fun u => kb_11_run_88 (none' ?_ _ hF3))
        · rw [nI_eq0 (by omega)] at u
          rw [if_neg u] at hgo'
          have hv5 : dr_v sd' (nx_cn nx K s) < nx_cn nx K s := Nat.mod_lt _ (by omega)
          refine kb_11_run_91 (hC := sp_11_drawn (c := nx_cn nx K s) hsd' hJ3 (by omega) (by omega)) (k := fun r τ6 hr => ?_)
          obtain ⟨rfl, hτ6⟩ := hr
          have hF6 : mo_Fm [0] [] σ τ6 := by rw [hτ6]; exact hF3.sJ _
          obtain ⟨-, -, -, -, hlt⟩ := nx_at_lt (fun k hk => (hW3.2.2.2.2.2.2.2 s hs k hk).2) hv5
          refine kb_11_run_100 (hC := sp_11_leadAt (hc _ hF6).2 hs hv5) (k := fun r τ7 hr => ?_)
          obtain ⟨rfl, rfl⟩ := hr
          refine kb_11_run_103 (k := ?_)
          rw [nI_1]
          exact ih (k + 1) _ (dr_sd sd') _ (by omega) hlt (dr_sd_lt _) hF6 (by rw [hτ6, am_J_sJ, if_pos rfl]) hgo' _
        · rw [nI_eq0 (by omega)] at u
          rw [hgo', if_pos u]
  have := loop n 0 s0 (dr_sd sd) τ2 (by omega) (by omega) (dr_sd_lt sd) hF2 hJ1 rfl none
  rw [nI_0] at this
  exact this
end MRUN
