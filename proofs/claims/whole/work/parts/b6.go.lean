/-! calls out of any walk: of an object's method by its contract, and of the two constructors -/
theorem am_goV {p : Program} {l : Launch} {e : Env} {R : Room} {s : State} {m : MethodId} {args : Array Value} {below : List Frame} {meth : Method} {c : Code} {H : Heap} {locs : List Loc} {cells slots : Nat} {Ψ : State → Prop} {cc : ByteArray} {nL pc : Nat} {ls : Array Slot} {own : String} {D : va_G} {K : Nat → ClassId} {ρ : Nat → Nat} {A : Nat → Prop}
    {sd : Bool} {y' : am_Y} {d o ci idx n : Nat} {as rest : List Value} {σ : am_St} {Q' : Option Value → am_St → Prop} (S : CallFix p m c cc nL s args am_tbl own) (hls : ls.size = nL) (hd : decode cc pc = .ok (.invokevirtual idx, 3)) (hw : am_mV own idx y' n) (ho : am_k sd o = ci) (hc : ci < 12) (hcl : (am_cl[ci]?).map (fun q => q.1) = some y'.1.cls) (hn : as.length = n) (hr : (rest.map fun v => v.category).sum ≤ 8) (hC : am_C sd y' d (.ref (am_oid o) :: as) σ Q') (hR : d + 1 ≤ R.frames ∧ 40 * (d + 1) ≤ R.locals) (hf : cells ≤ R.cells ∧ slots ≤ R.slots)
    (hK : va_K D am_cl (am_tys K) s) (hA : am_HA ρ s A) (hP : va_P D am_cl (am_ws K ρ sd σ) H) (hD : va_D A (am_ws K ρ sd σ)) (hS : va_S A s.heap H locs)
    (k : ∀ (r : Option Value) (σ' : am_St) (H1 : Heap) (locs1 : List Loc), Q' r σ' → va_P D am_cl (am_ws K ρ sd σ') H1 → va_D (va_A (am_ws K ρ sd σ) H.size) (am_ws K ρ sd σ') → H.size ≤ H1.size → (∀ q : Nat, q < H.size → ¬ va_A (am_ws K ρ sd σ) H.size q → H1[q]? = H[q]?) → va_S A s.heap H1 locs1 → W p l e R s m args below meth c H1 locs1 cells slots Ψ (F0 m (pc + 3) ls ((r.map (am_v ρ)).toList ++ rest))) :
    W p l e R s m args below meth c H locs cells slots Ψ (F0 m pc ls ((as.map (am_v ρ)).reverse ++ .ref (ρ (am_oid o)) :: rest)) := by
  obtain ⟨w1, w2, w3, w4, w5, w6, w7, w8, w9⟩ := hw
  obtain ⟨C, F, N, ty, h1, h2, h3, h4, h5, h6⟩ := am_cf_all ci hc
  have hC' : C = y'.1.cls := by rw [h1] at hcl; simpa using hcl
  obtain ⟨q0, i1, i2⟩ := am_at_w (K := K) (ρ := ρ) (σ := σ) (am_in_o ho hc)
  rw [am_ce_o ho] at i2
  have hG : GoodIn am_tbl (wsV own idx y'.1.cls y'.1 (Cond.code y'.1 y'.2.1 y'.2.2.1 y'.2.2.2 :: am_tbl)) := by
    intro w hw
    refine am_good ?_
    unfold wsV at hw
    simp only [List.cons_append, List.nil_append, List.mem_cons] at hw
    rcases hw with rfl | rfl | rfl | rfl | rfl | hw
    · exact w1
    · exact w2
    · exact w3
    · exact w4
    · exact w5
    · exact hw
  have hrecv := va_recv hK hP h1 i2
  rw [hC'] at hrecv
  have hF := am_freeA hD hS hA.1
  have run := va_runV (e := e) (below := below) (meth := meth) (locs := locs) (b := ρ (am_oid o)) (As := as.map (am_v ρ)) (rest := rest) (C := y'.1.cls) (cells := cells) (slots := slots) (R := R) (g := F0 m pc ls ((as.map (am_v ρ)).reverse ++ .ref (ρ (am_oid o)) :: rest)) S (hC l D K ρ H.size) (cwV n S.2.2.2.2 hG rfl rfl rfl ⟨rfl, w6, w7, w8⟩ ⟨hR.1, Nat.le_trans (by show 8 + (y'.2.2.1 + 11) + 40 * d ≤ 40 * (d + 1); omega) hR.2⟩)
    ⟨am_blind, hrecv, fun U hU hW => ⟨rfl, by rw [hU], by rw [hU]; exact hA.2.warm hW hS.2.1 hF, by rw [hU]; exact hP, va_K.moved hW.alike hK, hD.weaken (fun _ _ _ _ => trivial)⟩⟩ rfl (by rw [List.length_map]; exact hn) hls rfl (lv_room hr) hd hf
  intro T hT X
  obtain ⟨v, st₀, t, T', Lc, h0, X', hLc, e1, e2, ⟨⟨r, σ', hv, hq, hP1, hK1, hD1⟩, hz, hkp⟩, st⟩ := run T hT X
  injection hv with hv
  subst hv
  rw [h0] at hz hkp
  have hS1 : va_S A s.heap T'.heap (locs ++ Lc) := by
    refine ⟨Nat.le_trans hS.1 (by rw [e1]; exact hz), fun q h1 h2 => ?_, fun q hq => ?_⟩
    · rw [e1, hkp q (Nat.lt_of_lt_of_le h1 hS.1) (fun z => h2 (hF q z))]; exact hS.2.1 q h1 h2
    · rcases List.mem_append.mp hq with h | h
      · exact hS.2.2 q h
      · exact hF _ (hLc q h)
  obtain ⟨t2, a1, b1⟩ := k r σ' T'.heap (locs ++ Lc) hq (by rw [e1]; exact hP1) hD1 (by rw [e1]; exact hz) (fun q g1 g2 => by rw [e1]; exact hkp q g1 g2) hS1 T' rfl X'
  exact ⟨t2, st t2 a1, b1⟩
/-- a constructor, in a world of one blank cell -/
theorem am_goI {p : Program} {l : Launch} {e : Env} {R : Room} {s : State} {m : MethodId} {args : Array Value} {below : List Frame} {meth : Method} {c : Code} {H : Heap} {locs : List Loc} {cells slots : Nat} {Ψ : State → Prop} {cc : ByteArray} {nL pc : Nat} {ls : Array Slot} {own : String} {D : va_G} {K : Nat → ClassId} {ρ : Nat → Nat} {A : Nat → Prop}
    {sd : Bool} {y' : am_Y} {d idx x np mc' ms' : Nat} {as rest : List Value} {σ : am_St} {J J2 : List (Nat × Nat)} {I I2 : List Nat} {Q' : am_St → Prop} (S : CallFix p m c cc nL s args am_tbl own) (hls : ls.size = nL) (hd : decode cc pc = .ok (.invokespecial idx, 3)) (hw : ab_mI own idx y' np) (hl1 : Cond.methodLink own idx y'.1 ∈ am_tbl) (hN : am_N s) (hn : as.length = np) (hr : (rest.map fun v => v.category).sum ≤ 8) (hC : am_D sd y' d mc' ms' (.ref x :: as) σ J I J2 I2 Q') (hR : d + 1 ≤ R.frames ∧ 40 * (d + 1) ≤ R.locals) (hf : cells + mc' ≤ R.cells ∧ slots + ms' ≤ R.slots)
    (hK : va_K D am_cl (am_tys K) s) (hA : am_HA ρ s A) (hP : va_P D am_cl (am_wb K ρ sd σ J I) H) (hD : va_D A (am_wb K ρ sd σ J I)) (hS : va_S A s.heap H locs)
    (k : ∀ (ρ' : Nat → Nat) (σ' : am_St) (H1 : Heap) (locs1 : List Loc), am_ag I ρ ρ' → Q' σ' → va_P D am_cl (am_wb K ρ' sd σ' J2 I2) H1 → va_D (va_A (am_wb K ρ sd σ J I) H.size) (am_wb K ρ' sd σ' J2 I2) → H.size ≤ H1.size → (∀ q : Nat, q < H.size → ¬ va_A (am_wb K ρ sd σ J I) H.size q → H1[q]? = H[q]?) → va_S A s.heap H1 locs1 → W p l e R s m args below meth c H1 locs1 (cells + mc') (slots + ms') Ψ (F0 m (pc + 3) ls rest)) :
    W p l e R s m args below meth c H locs cells slots Ψ (F0 m pc ls ((as.map (am_v ρ)).reverse ++ .ref (ρ x) :: rest)) := by
  obtain ⟨-, w2, w3, w4, w5, w6, w7, w8, w9, w10⟩ := hw
  have hG : GoodIn am_tbl (Cond.code y'.1 y'.2.1 y'.2.2.1 none :: am_tbl) := by
    intro w hw
    refine am_good ?_
    rcases List.mem_cons.mp hw with rfl | hw
    · rw [w6] at w4; exact w4
    · exact hw
  have ht := S.2.2.2.2
  have hM := hC l D K ρ H.size
  rw [w6] at hM
  have hF := am_freeA hD hS hA.1
  have run := va_runI (e := e) (below := below) (meth := meth) (locs := locs) (b := ρ x) (As := as.map (am_v ρ)) (rest := rest) (cells := cells) (slots := slots) (R := R) (g := F0 m pc ls ((as.map (am_v ρ)).reverse ++ .ref (ρ x) :: rest)) S hM (cwI np ht hG rfl rfl rfl (ht _ w3) (ht _ hl1) (ht _ w2) w5 ⟨w7, w8, w9⟩ ⟨hR.1, Nat.le_trans (by show 8 + (y'.2.2.1 + 11) + 40 * d ≤ 40 * (d + 1); omega) hR.2⟩)
    ⟨ab_blind, fun U hU hW => ⟨rfl, by rw [hU], hN.warm hW, by rw [hU]; exact hA.2.warm hW hS.2.1 hF, by rw [hU]; exact hP, va_K.moved hW.alike hK, hD.weaken (fun _ _ _ _ => trivial)⟩⟩ rfl (by rw [List.length_map]; exact hn) hls rfl (lv_room hr) hd hf
  intro T hT X
  obtain ⟨v, st₀, t, T', Lc, h0, X', hLc, e1, e2, ⟨⟨ρ', σ', hv, hag, hq, hP1, hK1, hD1⟩, hz, hkp⟩, st⟩ := run T hT X
  injection hv with hv
  subst hv
  rw [h0] at hz hkp
  have hS1 : va_S A s.heap T'.heap (locs ++ Lc) := by
    refine ⟨Nat.le_trans hS.1 (by rw [e1]; exact hz), fun q h1 h2 => ?_, fun q hq => ?_⟩
    · rw [e1, hkp q (Nat.lt_of_lt_of_le h1 hS.1) (fun z => h2 (hF q z))]; exact hS.2.1 q h1 h2
    · rcases List.mem_append.mp hq with h | h
      · exact hS.2.2 q h
      · exact hF _ (hLc q h)
  obtain ⟨t2, a1, b1⟩ := k ρ' σ' T'.heap (locs ++ Lc) hag hq (by rw [e1]; exact hP1) hD1 (by rw [e1]; exact hz) (fun q g1 g2 => by rw [e1]; exact hkp q g1 g2) hS1 T' rfl X'
  exact ⟨t2, st t2 a1, b1⟩
