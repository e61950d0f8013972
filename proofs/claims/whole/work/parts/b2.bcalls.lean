/-! building: fields, calls, the end -/
theorem am_fb_more {J : List (Nat × Nat)} {σ : am_St} {ci o k o' k' : Nat} (h : ¬ (k' = k ∧ o' = o)) : am_fb (J ++ [(o, k)]) σ ci o' k' = am_fb J σ ci o' k' := by
  unfold am_fb
  have e : ((o', k') ∈ J ++ [(o, k)]) ↔ (o', k') ∈ J := by
    rw [List.mem_append, List.mem_singleton]
    refine ⟨fun q => q.elim id (fun q => ?_), Or.inl⟩
    injection q with q1 q2
    exact absurd ⟨q2, q1⟩ h
  simp only [e]
theorem am_fb_sI {J : List (Nat × Nat)} {σ : am_St} {ci o k o' k' : Nat} {v : Int32} (h : ¬ (k' = k ∧ o' = o)) : am_fb J (am_sI σ o k v) ci o' k' = am_fb J σ ci o' k' := by
  unfold am_fb
  rw [am_fa_sI h]
/-- the world is whole -/
def am_fullB (sd : Bool) (J : List (Nat × Nat)) (I : List Nat) : Bool := (am_ids sd).all I.contains && I.all (am_ids sd).contains && va_nd I && (List.range 17).all (fun o => (List.range 63).all (fun k => decide ((am_fk (am_k sd o) k).1 < 3) || decide ((am_fk (am_k sd o) k).1 = 9) || J.contains (o, k)))
theorem am_cb_full {sd : Bool} {J : List (Nat × Nat)} {I : List Nat} (h : am_fullB sd J I = true) (K : Nat → ClassId) (ρ : Nat → Nat) (σ : am_St) {i : Nat} (hi : i ∈ am_ids sd) : am_cb K ρ sd σ J i = am_ce K ρ sd σ i := by
  unfold am_fullB at h
  rw [Bool.and_eq_true] at h
  have h4 := h.2
  obtain ⟨o, ho, hi⟩ := List.mem_flatMap.mp hi
  have ho := List.mem_range.mp ho
  split at hi
  · rename_i hc
    rcases List.mem_cons.mp hi with rfl | hi
    · rw [am_cb_o rfl, am_ce_o rfl]
      congr 2
      refine List.map_congr_left (fun k hk => ?_)
      have hk := List.mem_range.mp hk
      have hk63 := Nat.lt_trans hk (am_nf_lt _ hc)
      have h5 := List.all_eq_true.mp (List.all_eq_true.mp h4 o (List.mem_range.mpr ho)) k (List.mem_range.mpr hk63)
      unfold am_fb
      rw [if_pos]
      rcases Bool.or_eq_true_iff.mp h5 with h6 | h6
      · rcases Bool.or_eq_true_iff.mp h6 with h7 | h7
        · exact Or.inl (of_decide_eq_true h7)
        · exfalso
          have h8 : ∀ ci, ci < 12 → ∀ k, k < am_nf ci → (am_fk ci k).1 ≠ 9 := by decide +kernel
          exact h8 _ hc k hk (of_decide_eq_true h7)
      · exact Or.inr (by simpa using h6)
    · obtain ⟨k, hk, rfl⟩ := List.mem_map.mp hi
      have hk := List.mem_range.mp (List.mem_filter.mp hk).1
      have hk63 := Nat.lt_trans hk (am_nf_lt _ hc)
      rw [am_cb_a rfl hk63, am_ce_a rfl hk63]
  · cases hi
theorem am_wD_tr {A : Nat → Prop} {I I' : List Nat} {ρ : Nat → Nat} {f f' : Nat → va_E} (hD : va_D A (I.map (fun i => (ρ i, f i)))) (hs : ∀ i ∈ I', i ∈ I) (hn : ∀ (x y a : Nat), I'[x]? = some a → I'[y]? = some a → x = y) : va_D A (I'.map (fun i => (ρ i, f' i))) := by
  have key : ∀ (k : Nat) (q : Nat × va_E), (I'.map (fun i => (ρ i, f' i)))[k]? = some q → ∃ (i x : Nat), I'[k]? = some i ∧ q.1 = ρ i ∧ I[x]? = some i ∧ (I.map (fun i => (ρ i, f i)))[x]? = some (ρ i, f i) := by
    intro k q hk
    rw [List.getElem?_map] at hk
    cases hi : I'[k]? with
    | none => rw [hi] at hk; cases hk
    | some i =>
      rw [hi] at hk
      cases hk
      obtain ⟨x, hx⟩ := List.getElem?_of_mem (hs i (List.mem_of_getElem? hi))
      exact ⟨i, x, rfl, rfl, hx, by rw [List.getElem?_map, hx]; rfl⟩
  refine ⟨fun a b p q ha hb e => ?_, fun k q hk => ?_⟩
  · obtain ⟨i, x, h1, h2, h3, h4⟩ := key a p ha
    obtain ⟨j, y, g1, g2, g3, g4⟩ := key b q hb
    have hxy := hD.1 x y _ _ h4 g4 (h2.symm.trans (e.trans g2))
    subst hxy
    have hij : i = j := Option.some.inj (h3.symm.trans g3)
    subst hij
    exact hn a b i h1 g1
  · obtain ⟨i, x, h1, h2, h3, h4⟩ := key k q hk
    rw [h2]
    exact hD.2 x _ h4
theorem am_wP_tr {D : va_G} {H : Heap} {I I' : List Nat} {ρ : Nat → Nat} {f f' : Nat → va_E} (hP : va_P D am_cl (I.map (fun i => (ρ i, f i))) H) (hs : ∀ i ∈ I', i ∈ I ∧ f' i = f i) : va_P D am_cl (I'.map (fun i => (ρ i, f' i))) H := by
  intro k q hk
  rw [List.getElem?_map] at hk
  cases hi : I'[k]? with
  | none => rw [hi] at hk; cases hk
  | some i =>
    rw [hi] at hk
    cases hk
    obtain ⟨h1, h2⟩ := hs i (List.mem_of_getElem? hi)
    obtain ⟨x, hx⟩ := List.getElem?_of_mem h1
    show va_at D am_cl (ρ i, f' i) H
    rw [h2]
    exact hP x (ρ i, f i) (by rw [List.getElem?_map, hx]; rfl)
theorem am_full_in {sd : Bool} {J : List (Nat × Nat)} {I : List Nat} (h : am_fullB sd J I = true) : (∀ i ∈ am_ids sd, i ∈ I) ∧ (∀ i ∈ I, i ∈ am_ids sd) ∧ va_nd I = true := by
  unfold am_fullB at h
  simp only [Bool.and_eq_true] at h
  refine ⟨fun i hi => ?_, fun i hi => ?_, h.1.2⟩
  · simpa using List.all_eq_true.mp h.1.1.1 i hi
  · simpa using List.all_eq_true.mp h.1.1.2 i hi
theorem am_full_ws {sd : Bool} {J : List (Nat × Nat)} {I : List Nat} (h : am_fullB sd J I = true) {D : va_G} {K : Nat → ClassId} {ρ : Nat → Nat} {A : Nat → Prop} {σ : am_St} {H : Heap} (hP : va_P D am_cl (am_wb K ρ sd σ J I) H) (hD : va_D A (am_wb K ρ sd σ J I)) : va_P D am_cl (am_ws K ρ sd σ) H ∧ va_D A (am_ws K ρ sd σ) := by
  obtain ⟨h1, h2, h3⟩ := am_full_in h
  refine ⟨am_wP_tr hP (fun i hi => ⟨h1 i hi, (am_cb_full h K ρ σ hi).symm⟩), am_wD_tr hD h1 (fun x y a hx hy => ?_)⟩
  have g1 := List.getElem?_eq_some_iff.mp hx
  have g2 := List.getElem?_eq_some_iff.mp hy
  exact (List.getElem_inj (am_ids_nd sd)).mp (g1.2.trans g2.2.symm)
theorem am_full_wb {sd : Bool} {J : List (Nat × Nat)} {I : List Nat} (h : am_fullB sd J I = true) {D : va_G} {K : Nat → ClassId} {ρ : Nat → Nat} {A : Nat → Prop} {σ : am_St} {H : Heap} (hP : va_P D am_cl (am_ws K ρ sd σ) H) (hD : va_D A (am_ws K ρ sd σ)) : va_P D am_cl (am_wb K ρ sd σ J I) H ∧ va_D A (am_wb K ρ sd σ J I) := by
  obtain ⟨h1, h2, h3⟩ := am_full_in h
  exact ⟨am_wP_tr hP (fun i hi => ⟨h2 i hi, am_cb_full h K ρ σ (h2 i hi)⟩), am_wD_tr hD h2 (fun x y a hx hy => va_nd_inj I h3 x y a hx hy)⟩
def ab_mI (own : String) (idx : Nat) (y : am_Y) (n : Nat) : Prop := (Cond.methodLink own idx y.1 ∈ am_tbl ∨ ∀ U : State, am_N U → va_Nw (.methodLinkNest own idx y.1 "InvariantLearner") U) ∧ Cond.instanceMethod y.1 ∈ am_tbl ∧ Cond.initialized y.1.cls ∈ am_tbl ∧ Cond.code y.1 y.2.1 y.2.2.1 y.2.2.2 ∈ am_tbl ∧ y.1.name = "<init>" ∧ y.2.2.2 = none ∧
  y.1.cls ≠ "java/lang/invoke/MethodHandle" ∧ y.1.cls ≠ "java/lang/invoke/VarHandle" ∧ (parseMethodDescriptor y.1.desc).map (fun d => d.parameters.length) = some n ∧ y.2.2.1 ≤ 21
section AMB2
variable {sd : Bool} {y : am_Y} {d mc ms : Nat} {I0 I1 : List Nat} {J1 : List (Nat × Nat)} {Q : am_St → Prop} {pc : Nat} {L : List (Option Value)} {stk : List Value} {σ : am_St} {J : List (Nat × Nat)} {I : List Nat} {n ns : Nat}
theorem ab_put {o ci k idx : Nat} {v : Value} (hd : decode y.2.1 pc = .ok (.putfield idx, 3)) (hw : am_fl y.1.cls idx ci k) (ho : am_k sd o = ci) (hc : ci < 12) (hcl : (am_cl[ci]?).map (fun q => q.1) = some y.1.cls) (hk : 3 ≤ (am_fk ci k).1 ∧ (am_fk ci k).1 < 9) (hv : am_fa σ ci o k = v) (hI : I.contains (am_oid o) = true) (kk : am_B sd y d mc ms I0 J1 I1 Q (pc + 3) L stk σ (J ++ [(o, k)]) I n ns) : am_B sd y d mc ms I0 J1 I1 Q pc L (v :: .ref (am_oid o) :: stk) σ J I n ns := by
  intro p l e s m args below meth c D K ρ0 ρ A H locs ls hX hN hK hA hg hl hP hD hS
  subst ho
  obtain ⟨C, F, N, ty, ⟨h1, h2, h3, h4, h5, h6⟩, h7, h8⟩ := am_cg_all _ hc
  obtain ⟨C', F', N', g1, g2⟩ := hw
  obtain ⟨rfl, rfl, rfl⟩ : C' = C ∧ F' = F ∧ N' = N := by have := g1.symm.trans h1; simp at this; exact this
  obtain ⟨q0, i1, i2⟩ := am_wb_at (K := K) (ρ := ρ) (sd := sd) (σ := σ) (J := J) (I := I) (i := am_oid o) (by simpa using hI)
  rw [am_cb_o rfl] at i2
  have hkn : k < am_nf (am_k sd o) := am_fk_lt hc hk.2
  have hkN : k < N' := by rw [h2]; exact hkn
  obtain ⟨t1, t2⟩ := h8 k hkN hk.1
  have hC : C' = y.1.cls := by rw [h1] at hcl; simpa using hcl
  have hvf : am_fb (J ++ [(o, k)]) σ (am_k sd o) o k = v := by unfold am_fb; rw [if_pos (Or.inr (List.mem_append_right _ (List.mem_singleton.mpr rfl)))]; exact hv
  have hset := am_wb_set (K := K) (ρ := ρ) (σ := σ) (σ' := σ) (J' := J ++ [(o, k)]) hD i1 (am_cb_put (v := v) hvf (fun k' hk' => am_fb_more (fun h => hk' h.1))) (am_cb_else (o := o) (fun _ _ => rfl) (fun ci' o' k' ho' => am_fb_more (fun h => ho' h.2)))
  have hvr : ∃ j, v = .ref j := by
    subst hv
    have e : (am_fk (am_k sd o) k).1 = 3 ∨ (am_fk (am_k sd o) k).1 = 4 ∨ ((am_fk (am_k sd o) k).1 ≠ 0 ∧ (am_fk (am_k sd o) k).1 ≠ 1 ∧ (am_fk (am_k sd o) k).1 ≠ 2 ∧ (am_fk (am_k sd o) k).1 ≠ 3 ∧ (am_fk (am_k sd o) k).1 ≠ 4) := by omega
    unfold am_fa
    split
    · omega
    · omega
    · omega
    · exact ⟨_, rfl⟩
    · exact ⟨_, rfl⟩
    · exact ⟨_, rfl⟩
  obtain ⟨j, rfl⟩ := hvr
  have hnar : narrow (ty k) (am_v ρ (.ref j)) = am_v ρ (.ref j) := by
    cases hty : ty k <;> rw [hty] at t1 <;> first | rfl | cases t1
  have hfit : fits (ty k) (am_v ρ (.ref j)) = true := by
    cases hty : ty k <;> rw [hty] at t1 <;> first | rfl | cases t1
  have fin : ∀ (H1 : Heap) (locs1 : List Loc), va_P D am_cl ((am_wb K ρ sd σ J I).set q0 (ρ (am_oid o), .inr (am_k sd o, ((List.range (am_nf (am_k sd o))).map (fun k => am_v ρ (am_fb J σ (am_k sd o) o k))).set k (am_v ρ (.ref j))))) H1 → va_D A ((am_wb K ρ sd σ J I).set q0 (ρ (am_oid o), .inr (am_k sd o, ((List.range (am_nf (am_k sd o))).map (fun k => am_v ρ (am_fb J σ (am_k sd o) o k))).set k (am_v ρ (.ref j))))) → va_S A s.heap H1 locs1 → W p l e (am_rB d mc ms) s m args below meth c H1 locs1 n ns (MQ below (am_Qb sd D K ρ0 A I0 J1 I1 Q) args s mc ms A) (F0 m (pc + 3) ls (stk.map (am_v ρ))) := by
    intro H1 locs1 hP1 hD1 hS1
    rw [hset] at hP1 hD1
    exact kk p l e s m args below meth c D K ρ0 ρ A H1 locs1 ls hX hN hK hA hg hl hP1 hD1 hS1
  by_cases hfn : (F' k).2.2.2 = true
  · exact va_putF (C := C') (T := F') (N := N') (ci := am_k sd o) (v := am_v ρ (.ref j)) (ty := ty k) hX.1 hX.2.1 hX.2.2.2.2.2.2 h3 ty h4 h5 hX.2.2.2.2.2.1 hK hP hD hS q0 i2 h1 k hkN (hX.2.2.2.2.2.2 _ g2) (fun _ h => h) hfn hN.1 ((t2 hfn).trans hC) (h4 k hkN) hnar hfit (by rw [List.length_map, List.length_range]; exact hkn) hd fin
  · exact va_put (C := C') (T := F') (N := N') (ci := am_k sd o) (v := am_v ρ (.ref j)) (ty := ty k) hX.1 hX.2.1 hX.2.2.2.2.2.2 h3 ty h4 h5 hX.2.2.2.2.2.1 hK hP hD hS q0 i2 h1 k hkN (hX.2.2.2.2.2.2 _ g2) (fun _ h => h) (by simpa using hfn) (h4 k hkN) hnar hfit (by rw [List.length_map, List.length_range]; exact hkn) hd fin
theorem ab_putI {o ci k idx : Nat} {v : Int32} (hd : decode y.2.1 pc = .ok (.putfield idx, 3)) (hw : am_fl y.1.cls idx ci k) (ho : am_k sd o = ci) (hc : ci < 12) (hk : (am_fk ci k).1 = 0) (hI : I.contains (am_oid o) = true) (kk : am_B sd y d mc ms I0 J1 I1 Q (pc + 3) L stk (am_sI σ o k v) J I n ns) : am_B sd y d mc ms I0 J1 I1 Q pc L (.int v :: .ref (am_oid o) :: stk) σ J I n ns := by
  intro p l e s m args below meth c D K ρ0 ρ A H locs ls hX hN hK hA hg hl hP hD hS
  subst ho
  obtain ⟨C, F, N, ty, h1, h2, h3, h4, h5, h6⟩ := am_cf_all _ hc
  obtain ⟨C', F', N', g1, g2⟩ := hw
  obtain ⟨rfl, rfl, rfl⟩ : C' = C ∧ F' = F ∧ N' = N := by have := g1.symm.trans h1; simp at this; exact this
  obtain ⟨q0, i1, i2⟩ := am_wb_at (K := K) (ρ := ρ) (sd := sd) (σ := σ) (J := J) (I := I) (i := am_oid o) (by simpa using hI)
  rw [am_cb_o rfl] at i2
  have hkn : k < am_nf (am_k sd o) := am_fk_lt hc (by rw [hk]; decide)
  obtain ⟨t1, t2⟩ := (h6 k (by rw [h2]; exact hkn)).1 hk
  have hvf : am_fb J (am_sI σ o k v) (am_k sd o) o k = .int v := by unfold am_fb; rw [if_pos (Or.inl (by rw [hk]; decide))]; unfold am_fa; rw [hk, am_I_sI, if_pos ⟨rfl, rfl⟩]; rfl
  have hset := am_wb_set (K := K) (ρ := ρ) (σ := σ) (σ' := am_sI σ o k v) (J' := J) hD i1 (am_cb_put (v := .int v) hvf (fun k' hk' => am_fb_sI (fun h => hk' h.1))) (am_cb_else (o := o) (fun _ _ => rfl) (fun ci' o' k' ho' => am_fb_sI (fun h => ho' h.2)))
  refine va_put (C := C') (T := F') (N := N') (ci := am_k sd o) (v := am_v ρ (.int v)) (ty := ty k) hX.1 hX.2.1 hX.2.2.2.2.2.2 h3 ty h4 h5 hX.2.2.2.2.2.1 hK hP hD hS q0 i2 h1 k (by rw [h2]; exact hkn) (hX.2.2.2.2.2.2 _ g2) (fun _ h => h) t2 (h4 k (by rw [h2]; exact hkn)) (by rw [t1]; rfl) (by rw [t1]; rfl) (by rw [List.length_map, List.length_range]; exact hkn) hd (fun H1 locs1 hP1 hD1 hS1 => ?_)
  rw [hset] at hP1 hD1
  exact kk p l e s m args below meth c D K ρ0 ρ A H1 locs1 ls hX hN hK hA hg hl hP1 hD1 hS1
theorem ab_get {o ci k idx : Nat} {v : Value} (hd : decode y.2.1 pc = .ok (.getfield idx, 3)) (hw : am_fl y.1.cls idx ci k) (ho : am_k sd o = ci) (hc : ci < 12) (hk : (am_fk ci k).1 < 9) (hJ : J.contains (o, k) = true) (hv : am_fa σ ci o k = v) (hI : I.contains (am_oid o) = true) (kk : am_B sd y d mc ms I0 J1 I1 Q (pc + 3) L (v :: stk) σ J I n ns) : am_B sd y d mc ms I0 J1 I1 Q pc L (.ref (am_oid o) :: stk) σ J I n ns := by
  intro p l e s m args below meth c D K ρ0 ρ A H locs ls hX hN hK hA hg hl hP hD hS
  subst ho
  obtain ⟨C, F, N, ty, h1, h2, h3, h4, h5, h6⟩ := am_cf_all _ hc
  obtain ⟨C', F', N', g1, g2⟩ := hw
  obtain ⟨rfl, rfl, rfl⟩ : C' = C ∧ F' = F ∧ N' = N := by have := g1.symm.trans h1; simp at this; exact this
  obtain ⟨q0, i1, i2⟩ := am_wb_at (K := K) (ρ := ρ) (sd := sd) (σ := σ) (J := J) (I := I) (i := am_oid o) (by simpa using hI)
  rw [am_cb_o rfl] at i2
  have hkn : k < am_nf (am_k sd o) := am_fk_lt hc hk
  have hf : am_fb J σ (am_k sd o) o k = v := by unfold am_fb; rw [if_pos (Or.inr (by simpa using hJ))]; exact hv
  exact va_get (C := C') (T := F') (N := N') (ci := am_k sd o) (v := am_v ρ v) hX.1 hX.2.1 hX.2.2.2.2.2.2 h3 hX.2.2.2.2.2.1 hK hP q0 i2 h1 k (by rw [h2]; exact hkn) (hX.2.2.2.2.2.2 _ g2) (fun _ h => h) (by simp [hkn, hf]) hd (kk p l e s m args below meth c D K ρ0 ρ A H locs ls hX hN hK hA hg hl hP hD hS)
theorem ab_ret (hd : decode y.2.1 pc = .ok (.return_, 1)) (hr : y.2.2.2 = none) (hn : n ≤ mc) (hns : ns ≤ ms) (hJ : J = J1) (hI : I = I1) (hq : Q σ) : am_B sd y d mc ms I0 J1 I1 Q pc L [] σ J I n ns := by
  intro p l e s m args below meth c D K ρ0 ρ A H locs ls hX hN hK hA hg hl hP hD hS
  subst hJ; subst hI
  refine W.widen (k := mc) (n := ms) hn hns ?_
  exact W.vret hX.1 hX.2.1 (hX.2.2.2.1.trans hr) (fun t ht hW => ⟨⟨ρ, σ, rfl, hg, hq, by rw [ht]; exact hP, va_K.moved hW.alike hK, hD⟩, hS.F ht⟩) hS.2.2 hd (hlocks := hX.2.2.2.2.1)
end AMB2
