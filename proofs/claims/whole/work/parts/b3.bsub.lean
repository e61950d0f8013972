/-! building: calls -/
theorem ab_blind {sd : Bool} {D : va_G} {K : Nat → ClassId} {ρ : Nat → Nat} {σ : am_St} {J : List (Nat × Nat)} {I : List Nat} {as : List Value} {sz : Nat} : FrameBlind (va_Pc (as.map (am_v ρ)) (fun U => U.heap.size = sz ∧ am_N U ∧ am_Z ρ (va_A (am_wb K ρ sd σ J I) sz) U U.heap ∧ am_Wb sd D K ρ (fun _ => True) σ J I U)) := fun a U g mk q => by
  obtain ⟨q0, q1, qN, qZ, qP, qK, qD⟩ := q
  exact ⟨q0, q1, am_N.same (u := U) rfl qN, am_Z.same (u := U) rfl qZ, qP, va_K.moved (u := U) (U := U.calling g mk a) (Vm.Alike.refl U.vm) qK, qD⟩
section AMB3
variable {sd : Bool} {y : am_Y} {d mc ms : Nat} {I0 I1 : List Nat} {J1 : List (Nat × Nat)} {Q : am_St → Prop} {pc : Nat} {L : List (Option Value)} {stk : List Value} {σ : am_St} {J : List (Nat × Nat)} {I : List Nat} {n ns : Nat}
theorem ab_call {y' : am_Y} {idx x np mc' ms' : Nat} {as rest : List Value} {J2 : List (Nat × Nat)} {I2 : List Nat} {Q' : am_St → Prop} (hd : decode y.2.1 pc = .ok (.invokespecial idx, 3)) (hw : ab_mI y.1.cls idx y' np) (hn : as.length = np) (hst : stk = as.reverse ++ .ref x :: rest) (hr : (rest.map fun v => v.category).sum ≤ 8) (hC : am_D sd y' d mc' ms' (.ref x :: as) σ J I J2 I2 Q')
    (hI : I0.all I.contains = true) (hL : am_rL I.contains L = true) (hs : am_rS I.contains rest = true) (hm1 : n + mc' ≤ mc) (hm2 : ns + ms' ≤ ms) (k : ∀ σ', Q' σ' → am_B sd y (d + 1) mc ms I0 J1 I1 Q (pc + 3) L rest σ' J2 I2 (n + mc') (ns + ms')) : am_B sd y (d + 1) mc ms I0 J1 I1 Q pc L stk σ J I n ns := by
  subst hst
  intro p l e s m args below meth c D K ρ0 ρ A H locs ls hX hN hK hA hg hl hP hD hS
  obtain ⟨w1, w2, w3, w4, w5, w6, w7, w8, w9, w10⟩ := hw
  have hG : GoodIn am_tbl (Cond.code y'.1 y'.2.1 y'.2.2.1 none :: am_tbl) := by
    intro w hw
    refine am_good ?_
    rcases List.mem_cons.mp hw with rfl | hw
    · rw [w6] at w4; exact w4
    · exact hw
  have ht := hX.2.2.2.2.2.2
  have hM := hC l D K ρ H.size
  rw [w6] at hM
  have hF := am_freeA hD hS hA.1
  have pre : PreS s H (va_Pc ((Value.ref x :: as).map (am_v ρ)) (fun U => U.heap.size = H.size ∧ am_N U ∧ am_Z ρ (va_A (am_wb K ρ sd σ J I) H.size) U U.heap ∧ am_Wb sd D K ρ (fun _ => True) σ J I U)) (.ref (ρ x) :: as.map (am_v ρ)) :=
    ⟨ab_blind, fun U hU hW => ⟨rfl, by rw [hU], hN.2.warm hW, by rw [hU]; exact hA.2.warm hW hS.2.1 hF, by rw [hU]; exact hP, va_K.moved hW.alike hK, hD.weaken (fun _ _ _ _ => trivial)⟩⟩
  have hroom : 2 * (F0 m pc ls (List.map (am_v ρ) (as.reverse ++ .ref x :: rest))).monitorRoom + ((rest.map (am_v ρ)).map fun v => v.category).sum ≤ 8 := lv_room (by rw [List.map_map]; have : ((fun v => v.category) ∘ am_v ρ) = fun v => v.category := funext (fun v => am_v_cat ρ v); rw [this]; exact hr)
  have hRR : (am_rB d mc' ms').frames + 1 ≤ (am_rB (d + 1) mc ms).frames ∧ 8 + (y'.2.2.1 + 11) + (am_rB d mc' ms').locals ≤ (am_rB (d + 1) mc ms).locals := ⟨Nat.le_refl _, by show 8 + (y'.2.2.1 + 11) + 40 * d ≤ 40 * (d + 1); omega⟩
  have run : va_Run p l e (am_rB (d + 1) mc ms) s m args below meth c H locs n ns mc' ms' (F0 m pc ls (List.map (am_v ρ) (as.reverse ++ .ref x :: rest))) (rest.map (am_v ρ)) (am_Qb sd D K ρ (va_A (am_wb K ρ sd σ J I) H.size) I J2 I2 Q' (Value.ref (ρ x) :: as.map (am_v ρ)).toArray) (va_A (am_wb K ρ sd σ J I) H.size) := by
    rcases w1 with w1 | w1
    · exact va_runI (b := ρ x) (As := as.map (am_v ρ)) ⟨hX.1, hX.2.1, hX.2.2.1, hX.2.2.2.2.2.1, ht⟩ hM (cwI np ht hG rfl rfl rfl (ht _ w3) (ht _ w1) (ht _ w2) w5 ⟨w7, w8, w9⟩ hRR) pre rfl (by rw [List.length_map]; exact hn) hl.1 (by simp [am_v]) hroom hd ⟨hm1, hm2⟩
    · exact va_runIN (b := ρ x) (As := as.map (am_v ρ)) ⟨hX.1, hX.2.1, hX.2.2.1, hX.2.2.2.2.2.1, ht⟩ hM ⟨va_cnB np ht hG rfl rfl rfl (w1 s hN.2) (ht _ w3) ⟨w7, w8, w9⟩ hRR, w5, ht _ w2⟩ pre rfl (by rw [List.length_map]; exact hn) hl.1 (by simp [am_v]) hroom hd ⟨hm1, hm2⟩
  intro T hT X
  obtain ⟨v, st₀, t, T', Lc, h0, X', hLc, e1, e2, ⟨⟨ρ', σ', hv, hag, hq, hP1, hK1, hD1⟩, hz, hkp⟩, st⟩ := run T hT X
  injection hv with hv
  subst hv
  rw [h0] at hz hkp
  have hS1 : va_S A s.heap T'.heap (locs ++ Lc) := by
    refine ⟨Nat.le_trans hS.1 (by rw [e1]; exact hz), fun q h1 h2 => ?_, fun q hq => ?_⟩
    · rw [e1, hkp q (Nat.lt_of_lt_of_le h1 hS.1) (fun z => h2 (hF q z))]; exact hS.2.1 q h1 h2
    · rcases List.mem_append.mp hq with h | h
      · exact hS.2.2 q h
      · exact hF _ (hLc q h)
  have hPP : ∀ j, I.contains j = true → ρ' j = ρ j := fun j hj => hag.1 j (by simpa using hj)
  have hg' : am_ag I0 ρ0 ρ' := ⟨fun i hi => (hag.1 i (by simpa using List.all_eq_true.mp hI i hi)).trans (hg.1 i hi), hag.2.1.trans hg.2.1, hag.2.2.1.trans hg.2.2.1, hag.2.2.2.trans hg.2.2.2⟩
  have kk := k σ' hq p l e s m args below meth c D K ρ0 ρ' A T'.heap (locs ++ Lc) ls hX hN hK ⟨hA.1, hA.2.re hag⟩ hg' (hl.re hPP hL) (by rw [e1]; exact hP1) (hD1.weaken (fun _ q _ h => hF q.1 h)) hS1 T' rfl X'
  rw [am_S_re hPP hs] at kk
  obtain ⟨t2, a1, b1⟩ := kk
  exact ⟨t2, st t2 a1, b1⟩
/-- a call of an object's method in a whole world -/
theorem ab_callV {y' : am_Y} {o ci idx np : Nat} {as rest : List Value} {Q' : Option Value → am_St → Prop} (hd : decode y.2.1 pc = .ok (.invokevirtual idx, 3)) (hw : am_mV y.1.cls idx y' np) (ho : am_k sd o = ci) (hc : ci < 12) (hcl : (am_cl[ci]?).map (fun q => q.1) = some y'.1.cls) (hn : as.length = np) (hst : stk = as.reverse ++ .ref (am_oid o) :: rest) (hr : (rest.map fun v => v.category).sum ≤ 8) (hC : am_C sd y' d (.ref (am_oid o) :: as) σ Q') (hB : am_fullB sd J I = true) (hm1 : n ≤ mc) (hm2 : ns ≤ ms)
    (k : ∀ (r : Option Value) (σ' : am_St), Q' r σ' → am_B sd y (d + 1) mc ms I0 J1 I1 Q (pc + 3) L (r.toList ++ rest) σ' J I n ns) : am_B sd y (d + 1) mc ms I0 J1 I1 Q pc L stk σ J I n ns := by
  subst hst
  intro p l e s m args below meth c D K ρ0 ρ A H locs ls hX hN hK hA hg hl hP0 hD0 hS
  obtain ⟨hP, hD⟩ := am_full_ws hB hP0 hD0
  obtain ⟨w1, w2, w3, w4, w5, w6, w7, w8, w9⟩ := hw
  obtain ⟨C, F, N, ty, h1, h2, h3, h4, h5, h6⟩ := am_cf_all ci hc
  have hC' : C = y'.1.cls := by rw [h1] at hcl; simpa using hcl
  obtain ⟨q0, i1, i2⟩ := am_at_w (K := K) (ρ := ρ) (σ := σ) (am_in_o ho hc)
  rw [am_ce_o ho] at i2
  have hG : GoodIn am_tbl (wsV y.1.cls idx y'.1.cls y'.1 (Cond.code y'.1 y'.2.1 y'.2.2.1 y'.2.2.2 :: am_tbl)) := by
    intro w hw
    refine am_good ?_
    unfold wsV at hw
    simp only [List.cons_append, List.nil_append, List.mem_cons] at hw
    rcases hw with rfl | rfl | rfl | rfl | rfl | hw
    · exact w1
    · exact w2
    · exact w3
    · exact w4
    · exact w5
    · exact hw
  have hrecv := va_recv hK hP h1 i2
  rw [hC'] at hrecv
  have hF := am_freeA hD hS hA.1
  have run := va_runV (e := e) (below := below) (meth := meth) (locs := locs) (b := ρ (am_oid o)) (As := as.map (am_v ρ)) (rest := rest.map (am_v ρ)) (C := y'.1.cls) (cells := n) (slots := ns) (R := am_rB (d + 1) mc ms) (g := F0 m pc ls (List.map (am_v ρ) (as.reverse ++ .ref (am_oid o) :: rest))) ⟨hX.1, hX.2.1, hX.2.2.1, hX.2.2.2.2.2.1, hX.2.2.2.2.2.2⟩ (hC l D K ρ H.size) (cwV np hX.2.2.2.2.2.2 hG rfl rfl rfl ⟨rfl, w6, w7, w8⟩ ⟨Nat.le_refl _, by show 8 + (y'.2.2.1 + 11) + 40 * d ≤ 40 * (d + 1); omega⟩)
    ⟨am_blind, hrecv, fun U hU hW => ⟨rfl, by rw [hU], by rw [hU]; exact hA.2.warm hW hS.2.1 hF, by rw [hU]; exact hP, va_K.moved hW.alike hK, hD.weaken (fun _ _ _ _ => trivial)⟩⟩ rfl (by rw [List.length_map]; exact hn) hl.1 (by simp [am_v]) (lv_room (by rw [List.map_map]; have : ((fun v => v.category) ∘ am_v ρ) = fun v => v.category := funext (fun v => am_v_cat ρ v); rw [this]; exact hr)) hd ⟨hm1, hm2⟩
  intro T hT X
  obtain ⟨v, st₀, t, T', Lc, h0, X', hLc, e1, e2, ⟨⟨r, σ', hv, hq, hP1, hK1, hD1⟩, hz, hkp⟩, st⟩ := run T hT X
  injection hv with hv
  subst hv
  rw [h0] at hz hkp
  have hS1 : va_S A s.heap T'.heap (locs ++ Lc) := by
    refine ⟨Nat.le_trans hS.1 (by rw [e1]; exact hz), fun q h1 h2 => ?_, fun q hq => ?_⟩
    · rw [e1, hkp q (Nat.lt_of_lt_of_le h1 hS.1) (fun z => h2 (hF q z))]; exact hS.2.1 q h1 h2
    · rcases List.mem_append.mp hq with h | h
      · exact hS.2.2 q h
      · exact hF _ (hLc q h)
  obtain ⟨hP2, hD2⟩ := am_full_wb hB hP1 hD1
  have kk := k r σ' hq p l e s m args below meth c D K ρ0 ρ A T'.heap (locs ++ Lc) ls hX hN hK hA hg hl (by rw [e1]; exact hP2) (hD2.weaken (fun _ q _ h => hF q.1 h)) hS1 T' rfl X'
  obtain ⟨t2, a1, b1⟩ := kk
  refine ⟨t2, st t2 ?_, b1⟩
  have e3 : List.map (am_v ρ) (r.toList ++ rest) = (r.map (am_v ρ)).toList ++ rest.map (am_v ρ) := by cases r <;> rfl
  rw [e3] at a1
  exact a1
end AMB3
