/-! rows of the class's tree: entryAbove, leavesSo, depthsSo, rowEntry -/
def rl_e (row : List Nat) (i : Nat) : Int32 := match row[i]? with
  | none => -2
  | some c => nI c
def rl_at (Rs : List (List Nat)) (k i : Nat) : Int32 := match Rs[k]? with
  | none => -2
  | some row => rl_e row i
def rl_sum : List (List Nat) → Nat
  | [] => 0
  | x :: r => x.length + rl_sum r
theorem rl_sum_app (a b : List (List Nat)) : rl_sum (a ++ b) = rl_sum a + rl_sum b := by
  induction a with
  | nil => simp [rl_sum]
  | cons x a ih => show x.length + rl_sum (a ++ b) = x.length + rl_sum a + rl_sum b; rw [ih]; omega
theorem ls_mid {α : Type} (a b : List α) (c : α) : (a ++ c :: b)[a.length]? = some c := by simp
theorem ls_len {α : Type} (a : List α) : a[a.length]? = none := by simp
theorem rl_e_mid (a b : List Nat) (c : Nat) : rl_e (a ++ c :: b) a.length = nI c := by unfold rl_e; rw [ls_mid]
theorem rl_e_ge {a : List Nat} {i : Nat} (h : a.length ≤ i) : rl_e a i = -2 := by unfold rl_e; rw [List.getElem?_eq_none h]
theorem rl_at_mid (a b : List (List Nat)) (c : List Nat) (i : Nat) : rl_at (a ++ c :: b) a.length i = rl_e c i := by unfold rl_at; rw [ls_mid]
theorem rl_at_ge {a : List (List Nat)} {k i : Nat} (h : a.length ≤ k) : rl_at a k i = -2 := by unfold rl_at; rw [List.getElem?_eq_none h]
theorem tr_rl_le {nd : Nat → Nat → Int32} {pt : Nat → List Nat} {i n : Nat} : (tr_rl nd pt i n).length ≤ n := by
  induction n with
  | zero => exact Nat.le_refl _
  | succ n ih =>
    show (tr_rl nd pt i n ++ _).length ≤ _
    rw [List.length_append]
    split
    · simp; omega
    · simp; omega
theorem tr_rl_sum {nd : Nat → Nat → Int32} {pt : Nat → List Nat} {i n : Nat} (h : ∀ j, i ≤ j → j < i + n → (pt j).length ≤ 16) : rl_sum (tr_rl nd pt i n) ≤ 16 * n := by
  induction n with
  | zero => exact Nat.le_refl _
  | succ n ih =>
    show rl_sum (tr_rl nd pt i n ++ _) ≤ _
    rw [rl_sum_app]
    have := ih (fun j a b => h j a (by omega))
    have h2 := h (i + n) (by omega) (by omega)
    split
    · show _ + ((pt (i + n)).length + 0) ≤ _; omega
    · show _ + 0 ≤ _; omega
section CROWS
variable {d t n : Nat} {nd : Nat → Nat → Int32} {pt : Nat → List Nat} {σ : am_St}
theorem sp_8_entryAbove (h : am_Tr σ t n nd) (hp : tr_pt nd pt 0 n) (h0 : pt 0 = []) {j i : Nat} (hj : j < n) (hi : i < 2 ^ 31) : am_C false ya_8_entryAbove d [.ref (am_oid t), .int (nI j), .int (nI i)] σ (fun r τ => τ = σ ∧ r = some (.int (rl_e (pt j) i))) := by
  obtain ⟨ht, hn, hI, hA⟩ := id h
  generalize hQ : (fun (r : Option Value) (τ : am_St) => τ = σ ∧ r = some (.int (rl_e (pt j) i))) = Q
  have loop : ∀ (m c : Nat) (tl : List Nat), c < n → (pt c).length = m → pt j = pt c ++ tl → ¬ (m ≤ i ∧ i < (pt j).length) → ∀ a5 : Option Value, am_T false ya_8_entryAbove d Q 12 [some (.ref (am_oid t)), some (.int (nI j)), some (.int (nI i)), some (.int (nI c)), some (.int (nI m - 1)), a5] [] σ := by
    intro m
    induction m with
    | zero =>
      intro c tl hc hm hpt hni a5
      refine kb_8_entryAbove_12 (kt := fun _ => kb_8_entryAbove_74 ?_) (kf := fun z => absurd (show nI 0 - 1 < 0 by decide) z)
      rw [← hQ]
      exact ⟨rfl, by rw [rl_e_ge (by omega)]⟩
    | succ m ih =>
      intro c tl hc hm hpt hni a5
      have hl16 := (hp.2 c (Nat.zero_le _) hc).2.1
      have hc0 : 0 < c := by
        rcases Nat.eq_zero_or_pos c with z | z
        · rw [z, h0] at hm; cases hm
        · exact z
      obtain ⟨c', tt, b, -, d2, d3, d4, d5, d6, d7⟩ := hp.1 c hc0 hc
      have hm' : (pt c').length = m := by rw [d7] at hm; simpa using hm
      have v : vp_in (nI c) 400 := vp_in_nI (by omega) (by omega)
      have v' : vp_in (nI c') 400 := vp_in_nI (by omega) (by omega)
      have eP : am_A σ t 7 (nI c).toNatClampNeg = nI c' := by rw [nI_clamp (by omega)]; exact (hA c hc 6 (by decide)).trans d3
      have eH : am_A σ t 3 (nI c').toNatClampNeg = nd c' 2 := by rw [nI_clamp (by omega)]; exact hA c' (by omega) 2 (by decide)
      have eT : am_A σ t 2 (nI c').toNatClampNeg = nI tt := by rw [nI_clamp (by omega)]; exact (hA c' (by omega) 1 (by decide)).trans d5
      have hpt' : pt j = pt c' ++ rw_cd b tt :: tl := by rw [hpt, d7, List.append_assoc]; rfl
      rw [nI_pred m]
      refine kb_8_entryAbove_12 (kt := fun z => absurd z (nI_pos (by omega))) (kf := fun _ => ?_)
      refine kb_8_entryAbove_17 (hi0 := v) (kt := fun _ => ?_) (kf := fun z => absurd ?_ z)
      · rw [eP]
        refine kb_8_entryAbove_33 (kt := fun z => ?_) (kf := fun z => ?_)
        · refine kb_8_entryAbove_65 (k := ?_)
          rw [← Int32.sub_eq_add_neg]
          refine ih c' (rw_cd b tt :: tl) (by omega) hm' hpt' (fun y => ?_) _
          by_cases e : m = i
          · exact z (by rw [e])
          · exact hni ⟨by omega, y.2⟩
        · have e : m = i := nI_inj (by omega) hi z
          have eV : rl_e (pt j) i = nI (rw_cd b tt) := by rw [hpt', ← e, ← hm']; exact rl_e_mid _ _ _
          refine kb_8_entryAbove_39 (hi0 := v') (kt := fun y => ?_) (kf := fun y => ?_)
          · rw [eH, d6] at y
            refine kb_8_entryAbove_55 (k := kb_8_entryAbove_56 (hi0 := v') (hq := ?_))
            rw [← hQ, eV, eT]
            refine ⟨rfl, ?_⟩
            unfold rw_cd
            rw [if_neg y, Int32.zero_add]
          · rw [eH, d6] at y
            refine kb_8_entryAbove_50 (k := kb_8_entryAbove_56 (hi0 := v') (hq := ?_))
            rw [← hQ, eV, eT]
            refine ⟨rfl, ?_⟩
            unfold rw_cd
            rw [if_pos y, ← nI_add]
            rfl
      · rw [eP]; exact nI_pos' (by omega)
  refine am_enter rfl (by simp [Value.category]) (Nat.le_of_ble_eq_true rfl) ?_
  refine kb_8_entryAbove_0 (hi1 := vp_in_nI (by omega) (by omega)) (k := ?_)
  rw [nI_clamp (show j < 2 ^ 31 by omega), show am_A σ t 6 j = nI (pt j).length from (hA j hj 5 (by decide)).trans (hp.2 j (Nat.zero_le _) hj).1]
  exact loop _ j [] hj rfl (by rw [List.append_nil]) (fun z => by omega) _
theorem sp_8_leavesSo (h : am_Tr σ t n nd) : am_C false ya_8_leavesSo d [.ref (am_oid t)] σ (fun r τ => τ = σ ∧ r = some (.int (nI (tr_rl nd pt 0 n).length))) := by
  obtain ⟨ht, hn, hI, hA⟩ := id h
  have loop : ∀ (j i : Nat), i + j = n → am_T false ya_8_leavesSo d (fun r τ => τ = σ ∧ r = some (.int (nI (tr_rl nd pt 0 n).length))) 4 [some (.ref (am_oid t)), some (.int (nI (tr_rl nd pt 0 i).length)), some (.int (nI i))] [] σ := by
    intro j
    induction j with
    | zero =>
      intro i hi
      have : i = n := by omega
      subst this
      exact kb_8_leavesSo_4 (kt := fun _ => kb_8_leavesSo_31 ⟨rfl, rfl⟩) (kf := fun z => absurd (by rw [hI]; exact nI_le (by omega) (by omega)) z)
    | succ j ih =>
      intro i hi
      have eK : am_A σ t 1 (nI i).toNatClampNeg = nd i 0 := by rw [nI_clamp (by omega)]; exact hA i (by omega) 0 (by decide)
      have e : tr_rl nd pt 0 (i + 1) = tr_rl nd pt 0 i ++ (if nd i 0 = 1 then [pt i] else []) := by show _ ++ (if nd (0 + i) 0 = 1 then [pt (0 + i)] else []) = _; rw [Nat.zero_add]
      have next := ih (i + 1) (by omega)
      rw [e] at next
      refine kb_8_leavesSo_4 (kt := fun z => absurd z (by rw [hI]; exact nI_ge (by omega) (by omega))) (kf := fun _ => ?_)
      refine kb_8_leavesSo_12 (hi0 := vp_in_nI (by omega) (by omega)) (kt := fun z => ?_) (kf := fun z => ?_)
      · rw [eK] at z
        rw [if_neg z, List.append_nil] at next
        refine kb_8_leavesSo_25 (k := ?_)
        rw [nI_1]; exact next
      · rw [eK] at z
        rw [if_pos z, List.length_append] at next
        refine kb_8_leavesSo_22 (k := kb_8_leavesSo_25 (k := ?_))
        rw [nI_1, nI_1]; exact next
  refine am_enter rfl (by simp [Value.category]) (Nat.le_of_ble_eq_true rfl) (kb_8_leavesSo_0 (k := ?_))
  have := loop n 0 (by omega)
  rw [show (tr_rl nd pt 0 0).length = 0 from rfl, nI_0] at this
  exact this
theorem sp_8_depthsSo (h : am_Tr σ t n nd) (hp : tr_pt nd pt 0 n) : am_C false ya_8_depthsSo d [.ref (am_oid t)] σ (fun r τ => τ = σ ∧ r = some (.int (nI (rl_sum (tr_rl nd pt 0 n))))) := by
  obtain ⟨ht, hn, hI, hA⟩ := id h
  have loop : ∀ (j i : Nat), i + j = n → am_T false ya_8_depthsSo d (fun r τ => τ = σ ∧ r = some (.int (nI (rl_sum (tr_rl nd pt 0 n))))) 4 [some (.ref (am_oid t)), some (.int (nI (rl_sum (tr_rl nd pt 0 i)))), some (.int (nI i))] [] σ := by
    intro j
    induction j with
    | zero =>
      intro i hi
      have : i = n := by omega
      subst this
      exact kb_8_depthsSo_4 (kt := fun _ => kb_8_depthsSo_37 ⟨rfl, rfl⟩) (kf := fun z => absurd (by rw [hI]; exact nI_le (by omega) (by omega)) z)
    | succ j ih =>
      intro i hi
      have c : (nI i).toNatClampNeg = i := nI_clamp (by omega)
      have v : vp_in (nI i) 400 := vp_in_nI (by omega) (by omega)
      have eK : am_A σ t 1 (nI i).toNatClampNeg = nd i 0 := by rw [c]; exact hA i (by omega) 0 (by decide)
      have eD : am_A σ t 6 (nI i).toNatClampNeg = nI (pt i).length := by rw [c]; exact (hA i (by omega) 5 (by decide)).trans (hp.2 i (Nat.zero_le _) (by omega)).1
      have e : tr_rl nd pt 0 (i + 1) = tr_rl nd pt 0 i ++ (if nd i 0 = 1 then [pt i] else []) := by show _ ++ (if nd (0 + i) 0 = 1 then [pt (0 + i)] else []) = _; rw [Nat.zero_add]
      have next := ih (i + 1) (by omega)
      rw [e, rl_sum_app] at next
      refine kb_8_depthsSo_4 (kt := fun z => absurd z (by rw [hI]; exact nI_ge (by omega) (by omega))) (kf := fun _ => ?_)
      refine kb_8_depthsSo_12 (hi0 := v) (kt := fun z => ?_) (kf := fun z => ?_)
      · rw [eK] at z
        rw [if_neg z] at next
        refine kb_8_depthsSo_31 (k := ?_)
        rw [nI_1]; exact next
      · rw [eK] at z
        rw [if_pos z] at next
        refine kb_8_depthsSo_22 (hi0 := v) (k := kb_8_depthsSo_31 (k := ?_))
        rw [nI_1, eD, nI_add]; exact next
  refine am_enter rfl (by simp [Value.category]) (Nat.le_of_ble_eq_true rfl) (kb_8_depthsSo_0 (k := ?_))
  have := loop n 0 (by omega)
  rw [show rl_sum (tr_rl nd pt 0 0) = 0 from rfl, nI_0] at this
  exact this
theorem sp_8_rowEntry (h : am_Tr σ t n nd) (hp : tr_pt nd pt 0 n) (h0 : pt 0 = []) {k i : Nat} (hk : k < 2 ^ 31) (hi : i < 2 ^ 31) : am_C false ya_8_rowEntry (d + 1) [.ref (am_oid t), .int (nI k), .int (nI i)] σ (fun r τ => τ = σ ∧ r = some (.int (rl_at (tr_rl nd pt 0 n) k i))) := by
  obtain ⟨ht, hn, hI, hA⟩ := id h
  generalize hQ : (fun (r : Option Value) (τ : am_St) => τ = σ ∧ r = some (.int (rl_at (tr_rl nd pt 0 n) k i))) = Q
  have loop : ∀ (j c : Nat), c + j = n → (tr_rl nd pt 0 c).length ≤ k → am_T false ya_8_rowEntry (d + 1) Q 5 [some (.ref (am_oid t)), some (.int (nI k)), some (.int (nI i)), some (.int (nI (k - (tr_rl nd pt 0 c).length))), some (.int (nI c))] [] σ := by
    intro j
    induction j with
    | zero =>
      intro c hc hl
      have : c = n := by omega
      subst this
      refine kb_8_rowEntry_5 (kt := fun _ => kb_8_rowEntry_46 ?_) (kf := fun z => absurd (by rw [hI]; exact nI_le (by omega) (by omega)) z)
      rw [← hQ]
      exact ⟨rfl, by rw [rl_at_ge hl]⟩
    | succ j ih =>
      intro c hc hl
      have v : vp_in (nI c) 400 := vp_in_nI (by omega) (by omega)
      have eK : am_A σ t 1 (nI c).toNatClampNeg = nd c 0 := by rw [nI_clamp (by omega)]; exact hA c (by omega) 0 (by decide)
      have e : tr_rl nd pt 0 (c + 1) = tr_rl nd pt 0 c ++ (if nd c 0 = 1 then [pt c] else []) := by show _ ++ (if nd (0 + c) 0 = 1 then [pt (0 + c)] else []) = _; rw [Nat.zero_add]
      refine kb_8_rowEntry_5 (kt := fun z => absurd z (by rw [hI]; exact nI_ge (by omega) (by omega))) (kf := fun _ => ?_)
      refine kb_8_rowEntry_14 (hi0 := v) (kt := fun z => ?_) (kf := fun z => ?_)
      · rw [eK] at z
        have next := ih (c + 1) (by omega)
        rw [e, if_neg z, List.append_nil] at next
        refine kb_8_rowEntry_40 (k := ?_)
        rw [nI_1]; exact next hl
      · rw [eK] at z
        refine kb_8_rowEntry_25 (kt := fun y => ?_) (kf := fun y => ?_)
        · rw [nI_eq0 (by omega)] at y
          have next := ih (c + 1) (by omega)
          rw [e, if_pos z, List.length_append] at next
          have e1 : nI (k - (tr_rl nd pt 0 c).length) + -1 = nI (k - ((tr_rl nd pt 0 c).length + [pt c].length)) := by
            rw [← nI_dec (k - ((tr_rl nd pt 0 c).length + [pt c].length))]
            congr 2
            simp; omega
          refine kb_8_rowEntry_37 (k := kb_8_rowEntry_40 (k := ?_))
          rw [nI_1, e1]
          exact next (by simp; omega)
        · rw [nI_eq0 (by omega)] at y
          have hkl : k = (tr_rl nd pt 0 c).length := by omega
          refine kb_8_rowEntry_29 (hC := sp_8_entryAbove h hp h0 (show c < n by omega) hi) (k := fun r τ hr => ?_)
          obtain ⟨rfl, rfl⟩ := hr
          refine kb_8_rowEntry_36 ?_
          rw [← hQ]
          refine ⟨rfl, ?_⟩
          have eR : tr_rl nd pt 0 n = tr_rl nd pt 0 c ++ (pt c :: tr_rl nd pt (0 + (c + 1)) j) := by
            rw [show n = (c + 1) + j by omega, tr_rl_add, e, if_pos z, List.append_assoc]; rfl
          rw [eR, hkl, rl_at_mid]
  refine am_enter rfl (by simp [Value.category]) (Nat.le_of_ble_eq_true rfl) (kb_8_rowEntry_0 (k := ?_))
  have := loop n 0 (by omega) (Nat.zero_le _)
  rw [show (tr_rl nd pt 0 0).length = 0 from rfl, nI_0] at this
  exact this
end CROWS
