/-! calls -/
theorem am_good {w : Cond} (h : w ∈ am_tbl) : w ∈ am_tbl ∧ ((w.onTables && w.keeps) = true ∨ ∃ ty, w = .arrayClass ty) := ⟨h, good_of_word (List.mem_filter.mp h).2⟩
/-- the words of a call of an object's method, and of a class's -/
def am_mV (own : String) (idx : Nat) (y : am_Y) (n : Nat) : Prop := Cond.methodLink own idx y.1 ∈ am_tbl ∧ Cond.instanceMethod y.1 ∈ am_tbl ∧ Cond.selects y.1.cls y.1 y.1 ∈ am_tbl ∧ Cond.initialized y.1.cls ∈ am_tbl ∧ Cond.code y.1 y.2.1 y.2.2.1 y.2.2.2 ∈ am_tbl ∧
  y.1.cls ≠ "java/lang/invoke/MethodHandle" ∧ y.1.cls ≠ "java/lang/invoke/VarHandle" ∧ (parseMethodDescriptor y.1.desc).map (fun d => d.parameters.length) = some n ∧ y.2.2.1 ≤ 21
def am_mS (own : String) (idx : Nat) (y : am_Y) (n : Nat) : Prop := Cond.methodLink own idx y.1 ∈ am_tbl ∧ Cond.static y.1 ∈ am_tbl ∧ Cond.initialized y.1.cls ∈ am_tbl ∧ Cond.code y.1 y.2.1 y.2.2.1 y.2.2.2 ∈ am_tbl ∧
  y.1.cls ≠ "java/lang/invoke/MethodHandle" ∧ y.1.cls ≠ "java/lang/invoke/VarHandle" ∧ (parseMethodDescriptor y.1.desc).map (fun d => d.parameters.length) = some n ∧ y.2.2.1 ≤ 21
theorem am_blind {sd : Bool} {D : va_G} {K : Nat → ClassId} {ρ : Nat → Nat} {σ : am_St} {as : List Value} {sz : Nat} : FrameBlind (va_Pc (as.map (am_v ρ)) (fun U => U.heap.size = sz ∧ am_Z ρ (va_A (am_ws K ρ sd σ) sz) U U.heap ∧ am_Wd sd D K ρ (fun _ => True) σ U)) := fun a U g mk q => by
  obtain ⟨q0, q1, qZ, qP, qK, qD⟩ := q
  exact ⟨q0, q1, am_Z.same (u := U) rfl qZ, qP, va_K.moved (u := U) (U := U.calling g mk a) (Vm.Alike.refl U.vm) qK, qD⟩
theorem am_freeA {A : Nat → Prop} {ws : va_W} {H0 H : Heap} {locs : List Loc} (hD : va_D A ws) (hS : va_S A H0 H locs) (hA : ∀ q, H0.size ≤ q → A q) : ∀ q, va_A ws H.size q → A q := by
  intro q h
  rcases h with ⟨k, e, h⟩ | h
  · exact hD.2 k _ h
  · exact hA q (Nat.le_trans hS.1 h)
/-- behind a call that ran -/
theorem am_back {sd : Bool} {y : am_Y} {d : Nat} {Q : Option Value → am_St → Prop} {pc : Nat} {L : List (Option Value)} {rest : List Value} {σ : am_St} {Q' : Option Value → am_St → Prop}
    {p : Program} {l : Launch} {e : Env} {s : State} {m : MethodId} {args : Array Value} {below : List Frame} {meth : Method} {c : Code} {D : va_G} {K : Nat → ClassId} {ρ : Nat → Nat} {A : Nat → Prop} {H : Heap} {locs : List Loc} {ls : Array Slot} {st0 : List Value} {a : Array Value}
    (hX : am_X y p s m args meth c) (hK : va_K D am_cl (am_tys K) s) (hA : am_HA ρ s A) (hl : am_L ρ ls y.2.2.1 L) (hD : va_D A (am_ws K ρ sd σ)) (hS : va_S A s.heap H locs)
    (run : va_Run p l e (am_room d) s m args below meth c H locs 0 0 0 0 (F0 m pc ls st0) (rest.map (am_v ρ)) (am_Qc sd D K ρ (va_A (am_ws K ρ sd σ) H.size) Q' a) (va_A (am_ws K ρ sd σ) H.size))
    (k : ∀ (r : Option Value) (σ' : am_St), Q' r σ' → am_T sd y d Q (pc + 3) L (r.toList ++ rest) σ') : W p l e (am_room d) s m args below meth c H locs 0 0 (MQ below (am_Qc sd D K ρ A Q) args s 0 0 A) (F0 m pc ls st0) := by
  have hF := am_freeA hD hS hA.1
  intro T hT X
  obtain ⟨v, st₀, t, T', Lc, h0, X', hLc, e1, e2, ⟨⟨r, σ', hv, hq, hP1, hK1, hD1⟩, hz, hkp⟩, st⟩ := run T hT X
  injection hv with hv
  subst hv
  rw [h0] at hz hkp
  have hvm : s.vm.Alike t.vm := by rw [← e2]; exact X'.warmed.alike
  have hS1 : va_S A s.heap T'.heap (locs ++ Lc) := by
    refine ⟨Nat.le_trans hS.1 (by rw [e1]; exact hz), fun q h1 h2 => ?_, fun q hq => ?_⟩
    · rw [e1, hkp q (Nat.lt_of_lt_of_le h1 hS.1) (fun z => h2 (hF q z))]; exact hS.2.1 q h1 h2
    · rcases List.mem_append.mp hq with h | h
      · exact hS.2.2 q h
      · exact hF _ (hLc q h)
  have kk := k r σ' hq p l e s m args below meth c D K ρ A T'.heap (locs ++ Lc) ls hX hK hA hl (by rw [e1]; exact hP1) (hD1.weaken (fun _ q _ h => hF q.1 h)) hS1 T' rfl X'
  obtain ⟨t2, a1, b1⟩ := kk
  refine ⟨t2, st t2 ?_, b1⟩
  have e3 : List.map (am_v ρ) (r.toList ++ rest) = (r.map (am_v ρ)).toList ++ rest.map (am_v ρ) := by cases r <;> rfl
  rw [e3] at a1
  exact a1
section AMC
variable {sd : Bool} {y : am_Y} {d : Nat} {Q : Option Value → am_St → Prop} {pc : Nat} {L : List (Option Value)} {σ : am_St}
theorem am_callV {y' : am_Y} {o ci idx n : Nat} {as rest stk : List Value} {Q' : Option Value → am_St → Prop} (hd : decode y.2.1 pc = .ok (.invokevirtual idx, 3)) (hw : am_mV y.1.cls idx y' n) (ho : am_k sd o = ci) (hc : ci < 12) (hcl : (am_cl[ci]?).map (fun q => q.1) = some y'.1.cls) (hn : as.length = n) (hst : stk = as.reverse ++ .ref (am_oid o) :: rest) (hr : (rest.map fun v => v.category).sum ≤ 8) (hC : am_C sd y' d (.ref (am_oid o) :: as) σ Q') (k : ∀ (r : Option Value) (σ' : am_St), Q' r σ' → am_T sd y (d + 1) Q (pc + 3) L (r.toList ++ rest) σ') : am_T sd y (d + 1) Q pc L stk σ := by
  subst hst
  intro p l e s m args below meth c D K ρ A H locs ls hX hK hA hl hP hD hS
  obtain ⟨w1, w2, w3, w4, w5, w6, w7, w8, w9⟩ := hw
  obtain ⟨C, F, N, ty, h1, h2, h3, h4, h5, h6⟩ := am_cf_all ci hc
  have hC' : C = y'.1.cls := by rw [h1] at hcl; simpa using hcl
  obtain ⟨q0, i1, i2⟩ := am_at_w (K := K) (ρ := ρ) (σ := σ) (am_in_o ho hc)
  rw [am_ce_o ho] at i2
  have hG : GoodIn am_tbl (wsV y.1.cls idx y'.1.cls y'.1 (Cond.code y'.1 y'.2.1 y'.2.2.1 y'.2.2.2 :: am_tbl)) := by
    intro w hw
    refine am_good ?_
    unfold wsV at hw
    simp only [List.cons_append, List.nil_append, List.mem_cons] at hw
    rcases hw with rfl | rfl | rfl | rfl | rfl | hw
    · exact w1
    · exact w2
    · exact w3
    · exact w4
    · exact w5
    · exact hw
  have hrecv := va_recv hK hP h1 i2
  rw [hC'] at hrecv
  have run := va_runV (e := e) (below := below) (meth := meth) (locs := locs) (b := ρ (am_oid o)) (As := as.map (am_v ρ)) (rest := rest.map (am_v ρ)) (C := y'.1.cls) (cells := 0) (slots := 0) (R := am_room (d + 1)) (g := F0 m pc ls (List.map (am_v ρ) (as.reverse ++ .ref (am_oid o) :: rest))) ⟨hX.1, hX.2.1, hX.2.2.1, hX.2.2.2.2.2.1, hX.2.2.2.2.2.2⟩ (hC l D K ρ H.size) (cwV n hX.2.2.2.2.2.2 hG rfl rfl rfl ⟨rfl, w6, w7, w8⟩ ⟨Nat.le_refl _, by show 8 + (y'.2.2.1 + 11) + 40 * d ≤ 40 * (d + 1); omega⟩)
    ⟨am_blind, hrecv, fun U hU hW => ⟨rfl, by rw [hU], by rw [hU]; exact hA.2.warm hW hS.2.1 (am_freeA hD hS hA.1), by rw [hU]; exact hP, va_K.moved hW.alike hK, hD.weaken (fun _ _ _ _ => trivial)⟩⟩ rfl (by rw [List.length_map]; exact hn) hl.1 (by simp [am_v]) (lv_room (by rw [List.map_map]; have : ((fun v => v.category) ∘ am_v ρ) = fun v => v.category := funext (fun v => am_v_cat ρ v); rw [this]; exact hr)) hd ⟨Nat.le_refl _, Nat.le_refl _⟩
  exact am_back hX hK hA hl hD hS run k
theorem am_callS {y' : am_Y} {idx n : Nat} {as rest stk : List Value} {Q' : Option Value → am_St → Prop} (hd : decode y.2.1 pc = .ok (.invokestatic idx, 3)) (hw : am_mS y.1.cls idx y' n) (hn : as.length = n) (hst : stk = as.reverse ++ rest) (hr : (rest.map fun v => v.category).sum ≤ 8) (hC : am_C sd y' d as σ Q') (k : ∀ (r : Option Value) (σ' : am_St), Q' r σ' → am_T sd y (d + 1) Q (pc + 3) L (r.toList ++ rest) σ') : am_T sd y (d + 1) Q pc L stk σ := by
  subst hst
  intro p l e s m args below meth c D K ρ A H locs ls hX hK hA hl hP hD hS
  obtain ⟨w1, w2, w4, w5, w6, w7, w8, w9⟩ := hw
  have hG : GoodIn am_tbl (Cond.code y'.1 y'.2.1 y'.2.2.1 y'.2.2.2 :: am_tbl) := by
    intro w hw
    refine am_good ?_
    rcases List.mem_cons.mp hw with rfl | hw
    · exact w5
    · exact hw
  have hB := callB_of (R := am_room (d + 1)) (rm := am_room d) (own := y.1.cls) (index := idx) n hX.2.2.2.2.2.2 hG rfl rfl rfl (hX.2.2.2.2.2.2 _ w4) (hX.2.2.2.2.2.2 _ w1) ⟨w6, w7, w8⟩ ⟨Nat.le_refl _, by show 8 + (y'.2.2.1 + 11) + 40 * d ≤ 40 * (d + 1); omega⟩
  have run := va_runS (e := e) (below := below) (meth := meth) (locs := locs) (As := as.map (am_v ρ)) (rest := rest.map (am_v ρ)) (cells := 0) (slots := 0) (R := am_room (d + 1)) (g := F0 m pc ls (List.map (am_v ρ) (as.reverse ++ rest))) ⟨hX.1, hX.2.1, hX.2.2.1, hX.2.2.2.2.2.1, hX.2.2.2.2.2.2⟩ (hC l D K ρ H.size) ⟨hB, hX.2.2.2.2.2.2 _ w2⟩
    ⟨am_blind, fun U hU hW => ⟨rfl, by rw [hU], by rw [hU]; exact hA.2.warm hW hS.2.1 (am_freeA hD hS hA.1), by rw [hU]; exact hP, va_K.moved hW.alike hK, hD.weaken (fun _ _ _ _ => trivial)⟩⟩ rfl (by rw [List.length_map]; exact hn) hl.1 (by simp) (lv_room (by rw [List.map_map]; have : ((fun v => v.category) ∘ am_v ρ) = fun v => v.category := funext (fun v => am_v_cat ρ v); rw [this]; exact hr)) hd ⟨Nat.le_refl _, Nat.le_refl _⟩
  exact am_back hX hK hA hl hD hS run k
/-- Math.min -/
theorem am_min {idx : Nat} {a b : Int32} {rest : List Value} (hd : decode y.2.1 pc = .ok (.invokestatic idx, 3)) (hw : Cond.methodLink y.1.cls idx Lib.Math.min.name ∈ am_tbl ∧ Cond.static Lib.Math.min.name ∈ am_tbl ∧ Cond.initialized "java/lang/Math" ∈ am_tbl ∧ Cond.code Lib.Math.min.name Lib.Math.min.code 2 (some .int) ∈ am_tbl) (hr : (rest.map fun v => v.category).sum ≤ 8) (k : am_T sd y (d + 1) Q (pc + 3) L (.int (if b < a then b else a) :: rest) σ) : am_T sd y (d + 1) Q pc L (.int b :: .int a :: rest) σ := by
  intro p l e s m args below meth c D K ρ A H locs ls hX hK hA hl hP hD hS
  have hr2 : ((rest.map (am_v ρ)).map fun v => v.category).sum ≤ 8 := by rw [List.map_map]; have : ((fun v => v.category) ∘ am_v ρ) = fun v => v.category := funext (fun v => am_v_cat ρ v); rw [this]; exact hr
  have ht := hX.2.2.2.2.2.2
  exact va_mmin hX.1 hX.2.1 (hX.2.2.1.trans hl.1.symm) hX.2.2.2.2.2.1 (ht _ hw.1) (ht _ hw.2.1) (ht _ hw.2.2.1) (ht _ hw.2.2.2) (by show 1 ≤ d + 1; omega) (by show _ + 13 ≤ 40 * (d + 1); omega) (Nat.zero_le _) (Nat.zero_le _) hd (k p l e s m args below meth c D K ρ A H locs ls hX hK hA hl hP hD hS)
end AMC
theorem am_C.mono {sd : Bool} {y : am_Y} {d : Nat} {as : List Value} {σ : am_St} {Q Q' : Option Value → am_St → Prop} (h : am_C sd y d as σ Q) (hq : ∀ r σ', Q r σ' → Q' r σ') : am_C sd y d as σ Q' := by
  intro l D K ρ sz
  intro p e h1 h2 h3 s m args below h4 h5 h6 h7
  obtain ⟨k, o, g1, g2, g3, g4, g5⟩ := h l D K ρ sz p e h1 h2 h3 s m args below h4 h5 h6 h7
  obtain ⟨⟨r, σ', a1, a2, a3⟩, a4⟩ := g4
  exact ⟨k, o, g1, g2, g3, ⟨⟨r, σ', a1, hq _ _ a2, a3⟩, a4⟩, g5⟩
