/-! entering a method, the cells of a state -/
theorem am_getD {α : Type} (l : List α) (n : Nat) (d : α) (h : l.length ≤ n) : l.getD n d = d := by rw [List.getD_eq_getElem?_getD, List.getElem?_eq_none h]; rfl
theorem am_enter {sd : Bool} {y : am_Y} {d : Nat} {as : List Value} {σ : am_St} {Q : Option Value → am_St → Prop} (hy : plainName y.1.cls = true) (hc : ∀ v ∈ as, v.category = 1) (hn : as.length ≤ y.2.2.1) (k : am_T sd y d Q 0 (am_L0 as y.2.2.1) [] σ) : am_C sd y d as σ Q := by
  intro l D K ρ sz
  refine Met.ofW (cc := y.2.1) (maxL := y.2.2.1) (ret := y.2.2.2) hy rfl ?_
  intro p e s m args below meth c s₁ B hml hv
  obtain ⟨rfl, hsz, hZ, hP, hK, hD0⟩ := hv
  have hx := B.exec
  have hb := B.bytes
  have hr := B.returns
  have hts := atoms_spec (ws := .code y.1 y.2.1 y.2.2.1 y.2.2.2 :: am_tbl) B.pre
  have hown : s.vm.findClass y.1.cls = some m.cls := findClass_of_methodNamed B.named
  have hlocks := B.notSynchronized
  subst hsz
  have hD := hD0.self (sz := s.heap.size)
  have hA : am_HA ρ s (va_A (am_ws K ρ sd σ) s.heap.size) := ⟨fun q h => Or.inr h, hZ⟩
  have hl := lv_entry (as.map (am_v ρ)) (n := y.2.2.1) (by rw [am_sl ρ as hc]; exact hn)
  rw [lg_entry_eq]
  have hl2 : am_L ρ ((lg_sl (as.map (am_v ρ)) ++ List.replicate (y.2.2.1 - (lg_sl (as.map (am_v ρ))).length) Slot.unset).toArray) y.2.2.1 (am_L0 as y.2.2.1) := by
    refine ⟨hl.1, hl.2.1, fun q hq => hl.2.2 q ?_⟩
    rw [am_args ρ as 0 hc]
    obtain ⟨j, v, hj, rfl⟩ := (am_lv_mem _ 0).mp hq
    refine (am_lv_mem _ 0).mpr ⟨j, v, ?_, rfl⟩
    unfold am_L0 at hj
    rw [List.getElem?_append] at hj
    split at hj
    · exact hj
    · rw [List.getElem?_replicate] at hj
      split at hj <;> simp at hj
  exact k p l e s m _ below meth c D K ρ _ s.heap [] _ ⟨hx, hb, hml, hr, hlocks, hown, fun w hw => hts w (List.mem_cons_of_mem _ hw)⟩ hK hA hl2 hP hD va_S.rf
theorem am_ids_nd : ∀ sd : Bool, (am_ids sd).Nodup := by decide +kernel
theorem am_o_lt {sd : Bool} {o ci : Nat} (h : am_k sd o = ci) (hc : ci < 12) : o < 17 := by
  rcases Nat.lt_or_ge o 17 with q | q
  · exact q
  · exfalso
    subst h
    unfold am_k at hc
    split at hc
    · rw [if_neg (by omega)] at hc; omega
    · rw [am_getD _ _ _ (by simp; omega)] at hc; omega
theorem am_in_o {sd : Bool} {o ci : Nat} (h : am_k sd o = ci) (hc : ci < 12) : am_oid o ∈ am_ids sd := by
  refine List.mem_flatMap.mpr ⟨o, List.mem_range.mpr (am_o_lt h hc), ?_⟩
  rw [if_pos (by rw [h]; exact hc)]
  exact List.mem_cons_self
theorem am_in_a {sd : Bool} {o ci k : Nat} (h : am_k sd o = ci) (hc : ci < 12) (hk : (am_fk ci k).1 = 3) : am_aid o k ∈ am_ids sd := by
  have hn : k < am_nf ci := by
    rcases Nat.lt_or_ge k (am_nf ci) with q | q
    · exact q
    · exfalso
      unfold am_fk at hk
      rw [am_getD _ _ _ q] at hk
      exact absurd hk (by decide)
  refine List.mem_flatMap.mpr ⟨o, List.mem_range.mpr (am_o_lt h hc), ?_⟩
  rw [if_pos (by rw [h]; exact hc), h]
  exact List.mem_cons_of_mem _ (List.mem_map.mpr ⟨k, List.mem_filter.mpr ⟨List.mem_range.mpr hn, by rw [hk]; rfl⟩, rfl⟩)
theorem am_nf_lt : ∀ ci, ci < 12 → am_nf ci < 63 := by decide +kernel
theorem am_fk_lt {ci k : Nat} (hc : ci < 12) (h : (am_fk ci k).1 < 9) : k < am_nf ci := by
  rcases Nat.lt_or_ge k (am_nf ci) with q | q
  · exact q
  · exfalso
    unfold am_fk at h
    rw [am_getD _ _ _ q] at h
    exact absurd h (by decide)
theorem am_at_w {K : Nat → ClassId} {ρ : Nat → Nat} {sd : Bool} {σ : am_St} {i : Nat} (h : i ∈ am_ids sd) : ∃ q0 : Nat, (am_ids sd)[q0]? = some i ∧ (am_ws K ρ sd σ)[q0]? = some (ρ i, am_ce K ρ sd σ i) := by
  obtain ⟨q0, hq⟩ := List.getElem?_of_mem h
  exact ⟨q0, hq, by unfold am_ws; rw [List.getElem?_map, hq]; rfl⟩
theorem am_ce_o {K : Nat → ClassId} {ρ : Nat → Nat} {sd : Bool} {σ : am_St} {o ci : Nat} (h : am_k sd o = ci) : am_ce K ρ sd σ (am_oid o) = .inr (ci, (List.range (am_nf ci)).map (fun k => am_v ρ (am_fa σ ci o k))) := by
  unfold am_ce am_oid
  rw [if_pos (Nat.mul_mod_right 64 o), Nat.mul_div_cancel_left o (by decide), h]
theorem am_ce_a {K : Nat → ClassId} {ρ : Nat → Nat} {sd : Bool} {σ : am_St} {o ci k : Nat} (h : am_k sd o = ci) (hk : k < 63) : am_ce K ρ sd σ (am_aid o k) = .inl (K (am_fk ci k).2.1, (am_fk ci k).2.2, .inl (am_A σ o k)) := by
  have e1 : (64 * o + k + 1) % 64 = k + 1 := by omega
  have e2 : (64 * o + k + 1) / 64 = o := by omega
  unfold am_ce am_aid
  rw [e1, e2, if_neg (by omega), h, Nat.add_sub_cancel]
theorem am_set_w {K : Nat → ClassId} {ρ : Nat → Nat} {sd : Bool} {σ σ' : am_St} {i q0 : Nat} {c : va_E} (hq : (am_ids sd)[q0]? = some i) (hc : am_ce K ρ sd σ' i = c) (ho : ∀ j : Nat, j ≠ i → am_ce K ρ sd σ' j = am_ce K ρ sd σ j) : (am_ws K ρ sd σ).set q0 (ρ i, c) = am_ws K ρ sd σ' := by
  apply List.ext_getElem?
  intro q
  unfold am_ws
  rw [List.getElem?_set, List.getElem?_map, List.getElem?_map]
  by_cases e : q0 = q
  · subst e
    have hl : q0 < (am_ids sd).length := (List.getElem?_eq_some_iff.mp hq).1
    rw [if_pos rfl, if_pos (by rw [List.length_map]; exact hl), hq, ← hc]
    rfl
  · rw [if_neg e]
    cases hj : (am_ids sd)[q]? with
    | none => rfl
    | some j =>
      have hji : j ≠ i := fun e2 => by
        subst e2
        have h1 := List.getElem?_eq_some_iff.mp hq
        have h2 := List.getElem?_eq_some_iff.mp hj
        exact e ((List.getElem_inj (am_ids_nd sd)).mp (h1.2.trans h2.2.symm))
      simp [ho j hji]
theorem am_fa_sI {σ : am_St} {ci o k o' k' : Nat} {v : Int32} (h : ¬ (k' = k ∧ o' = o)) : am_fa (am_sI σ o k v) ci o' k' = am_fa σ ci o' k' := by
  have e : am_I (am_sI σ o k v) o' k' = am_I σ o' k' := by rw [am_I_sI, if_neg h]
  unfold am_fa
  rw [e]
  rfl
theorem am_fa_sR {σ : am_St} {ci o k o' k' : Nat} {v : Nat} (h : ¬ (k' = k ∧ o' = o)) : am_fa (am_sR σ o k v) ci o' k' = am_fa σ ci o' k' := by
  have e : am_R (am_sR σ o k v) o' k' = am_R σ o' k' := by rw [am_R_sR, if_neg h]
  unfold am_fa
  rw [e]
  rfl
theorem am_fa_sJ {σ : am_St} {ci o o' k' : Nat} {v : Int64} (h : ¬ o' = o ∨ (am_fk ci k').1 ≠ 2) : am_fa (am_sJ σ o v) ci o' k' = am_fa σ ci o' k' := by
  unfold am_fa
  rcases h with h | h
  · rw [am_J_sJ, if_neg h]; rfl
  · split <;> first | rfl | (rename_i e; exact absurd e h)
/-- one field more: the cell of an object -/
theorem am_ce_put {K : Nat → ClassId} {ρ : Nat → Nat} {sd : Bool} {σ σ' : am_St} {o k : Nat} {v : Value} (hv : am_fa σ' (am_k sd o) o k = v) (hf : ∀ k', k' ≠ k → am_fa σ' (am_k sd o) o k' = am_fa σ (am_k sd o) o k') : am_ce K ρ sd σ' (am_oid o) = .inr (am_k sd o, ((List.range (am_nf (am_k sd o))).map (fun k => am_v ρ (am_fa σ (am_k sd o) o k))).set k (am_v ρ v)) := by
  rw [am_ce_o rfl]
  congr 2
  apply List.ext_getElem?
  intro q
  rw [List.getElem?_set, List.getElem?_map, List.getElem?_map]
  by_cases e : k = q
  · subst e
    rw [if_pos rfl]
    by_cases hl : k < am_nf (am_k sd o)
    · simp [hl, hv]
    · simp [hl]
  · rw [if_neg e]
    rcases Nat.lt_or_ge q (am_nf (am_k sd o)) with hl | hl
    · simp [hl, hf q (fun h => e h.symm)]
    · simp [Nat.not_lt.mpr hl]
theorem am_ce_else {K : Nat → ClassId} {ρ : Nat → Nat} {sd : Bool} {σ σ' : am_St} {o : Nat} (hA : ∀ o' k', am_A σ' o' k' = am_A σ o' k') (hf : ∀ ci o' k', o' ≠ o → am_fa σ' ci o' k' = am_fa σ ci o' k') (j : Nat) (hj : j ≠ am_oid o) : am_ce K ρ sd σ' j = am_ce K ρ sd σ j := by
  unfold am_ce
  by_cases e : j % 64 = 0
  · rw [if_pos e, if_pos e]
    have hne : j / 64 ≠ o := fun h => hj (by unfold am_oid; omega)
    congr 2
    exact List.map_congr_left (fun k _ => by rw [hf _ _ k hne])
  · rw [if_neg e, if_neg e, hA]
theorem am_ce_elseA {K : Nat → ClassId} {ρ : Nat → Nat} {sd : Bool} {σ : am_St} {o k : Nat} {f : Nat → Int32} (j : Nat) (hj : j ≠ am_aid o k) : am_ce K ρ sd (am_sA σ o k f) j = am_ce K ρ sd σ j := by
  unfold am_ce
  by_cases e : j % 64 = 0
  · rw [if_pos e, if_pos e]
    rfl
  · rw [if_neg e, if_neg e, am_A_sA, if_neg (fun h => hj (by unfold am_aid; omega))]
