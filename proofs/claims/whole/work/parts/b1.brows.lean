/-! rows of the building judgement -/
def am_isR : FieldType → Bool
  | .array _ => true
  | .object _ => true
  | _ => false
def am_dv (n : Nat) : Value := if n < 2 then .int 0 else if n = 2 then .long 0 else .null
def am_cg (ci : Nat) (C : String) (F : u_T) (N : Nat) (ty : Nat → FieldType) : Prop :=
  am_cf ci C F N ty ∧ (∀ k, k < N → defaultValue (ty k) = am_dv (am_fk ci k).1) ∧ ∀ k, k < N → 3 ≤ (am_fk ci k).1 → am_isR (ty k) = true ∧ ((F k).2.2.2 = true → (F k).1 = C)
theorem am_cg_all (ci : Nat) (h : ci < 12) : ∃ (C : String) (F : u_T) (N : Nat) (ty : Nat → FieldType), am_cg ci C F N ty := by
  match ci, h with
  | 0, _ => exact ⟨na_R0, na_F0, 13, na_t0, ⟨rfl, rfl, na_w0, na_o0, na_n0, by decide +kernel⟩, by decide +kernel, by decide +kernel⟩
  | 1, _ => exact ⟨na_R1, na_F1, 15, na_t1, ⟨rfl, rfl, na_w1, na_o1, na_n1, by decide +kernel⟩, by decide +kernel, by decide +kernel⟩
  | 2, _ => exact ⟨na_R2, na_F2, 16, na_t2, ⟨rfl, rfl, na_w2, na_o2, na_n2, by decide +kernel⟩, by decide +kernel, by decide +kernel⟩
  | 3, _ => exact ⟨na_R3, na_F3, 6, na_t3, ⟨rfl, rfl, na_w3, na_o3, na_n3, by decide +kernel⟩, by decide +kernel, by decide +kernel⟩
  | 4, _ => exact ⟨na_R4, na_F4, 12, na_t4, ⟨rfl, rfl, na_w4, na_o4, na_n4, by decide +kernel⟩, by decide +kernel, by decide +kernel⟩
  | 5, _ => exact ⟨na_R5, na_F5, 13, na_t5, ⟨rfl, rfl, na_w5, na_o5, na_n5, by decide +kernel⟩, by decide +kernel, by decide +kernel⟩
  | 6, _ => exact ⟨na_R6, na_F6, 8, na_t6, ⟨rfl, rfl, na_w6, na_o6, na_n6, by decide +kernel⟩, by decide +kernel, by decide +kernel⟩
  | 7, _ => exact ⟨na_R7, na_F7, 5, na_t7, ⟨rfl, rfl, na_w7, na_o7, na_n7, by decide +kernel⟩, by decide +kernel, by decide +kernel⟩
  | 8, _ => exact ⟨na_R8, na_F8, 8, na_t8, ⟨rfl, rfl, na_w8, na_o8, na_n8, by decide +kernel⟩, by decide +kernel, by decide +kernel⟩
  | 9, _ => exact ⟨na_R9, na_F9, 16, na_t9, ⟨rfl, rfl, na_w9, na_o9, na_n9, by decide +kernel⟩, by decide +kernel, by decide +kernel⟩
  | 10, _ => exact ⟨na_R10, na_F10, 14, na_t10, ⟨rfl, rfl, na_w10, na_o10, na_n10, by decide +kernel⟩, by decide +kernel, by decide +kernel⟩
  | 11, _ => exact ⟨na_R11, na_F11, 50, na_t11, ⟨rfl, rfl, na_w11, na_o11, na_n11, by decide +kernel⟩, by decide +kernel, by decide +kernel⟩
def am_nw (own : String) (idx ci : Nat) : Prop := ∃ (C : String) (F : u_T) (N : Nat), am_cl[ci]? = some (C, F, N) ∧ Cond.classLink own idx C ∈ am_tbl ∧ Cond.instantiable C N ∈ am_tbl ∧ Cond.initialized C ∈ am_tbl
def am_at (t : Nat) : ArrayType := match t with
  | 0 => .int
  | 1 => .byte
  | _ => .boolean
def am_P1 (i : Nat) : Nat → Bool := fun j => !(j == i)
def am_up (ρ : Nat → Nat) (i q : Nat) : Nat → Nat := fun j => if j = i then q else ρ j
theorem am_up_ne {ρ : Nat → Nat} {i q : Nat} (j : Nat) (h : am_P1 i j = true) : am_up ρ i q j = ρ j := by
  unfold am_up
  rw [if_neg (fun e => by subst e; simp [am_P1] at h)]
theorem am_ag.up {I0 : List Nat} {ρ0 ρ : Nat → Nat} {i q : Nat} (h : am_ag I0 ρ0 ρ) (hi : I0.contains i = false) (h2 : i < 2000) : am_ag I0 ρ0 (am_up ρ i q) := by
  refine ⟨fun j hj => ?_, ?_, ?_, ?_⟩
  · rw [am_up, if_neg (fun e => by subst e; simp [hj] at hi)]; exact h.1 j hj
  · rw [am_up, if_neg (by omega)]; exact h.2.1
  · rw [am_up, if_neg (by omega)]; exact h.2.2.1
  · rw [am_up, if_neg (by omega)]; exact h.2.2.2
theorem am_HA.up {ρ : Nat → Nat} {s : State} {A : Nat → Prop} {i q : Nat} (h : am_HA ρ s A) (h2 : i < 2000) : am_HA (am_up ρ i q) s A := ⟨h.1, h.2.re ((am_ag.rf [] ρ).up rfl h2)⟩
/-- the world with one cell more -/
theorem am_wb_up {K : Nat → ClassId} {ρ : Nat → Nat} {sd : Bool} {σ : am_St} {J : List (Nat × Nat)} {I : List Nat} {i q : Nat} {ce : va_E} (hJ : am_rJ sd (am_P1 i) σ J = true) (hI : I.contains i = false) (hc : am_cb K (am_up ρ i q) sd σ J i = ce) : am_wb K ρ sd σ J I ++ [(q, ce)] = am_wb K (am_up ρ i q) sd σ J (I ++ [i]) := by
  have h1 := am_wb_congr (K := K) (ρ := ρ) (ρ' := am_up ρ i q) (I := I) am_up_ne hJ (fun j hj => by
    unfold am_P1
    have : j ≠ i := fun e => by subst e; simp [hj] at hI
    simp [this])
  rw [← h1]
  unfold am_wb
  rw [List.map_append, List.map_singleton, hc]
  congr 3
  unfold am_up
  rw [if_pos rfl]
section AMB
variable {sd : Bool} {y : am_Y} {d mc ms : Nat} {I0 I1 : List Nat} {J1 : List (Nat × Nat)} {Q : am_St → Prop} {pc : Nat} {L : List (Option Value)} {stk : List Value} {σ : am_St} {J : List (Nat × Nat)} {I : List Nat} {n ns : Nat}
theorem ab_iconst {z : Int} {v : Int32} (hd : decode y.2.1 pc = .ok (.iconst z, 1)) (hv : Int32.ofInt z = v) (k : am_B sd y d mc ms I0 J1 I1 Q (pc + 1) L (.int v :: stk) σ J I n ns) : am_B sd y d mc ms I0 J1 I1 Q pc L stk σ J I n ns :=
  fun p l e s m args below meth c D K ρ0 ρ A H locs ls hX hN hK hA hg hl hP hD hS => lv_iconst hX.1 hX.2.1 hd hv (k p l e s m args below meth c D K ρ0 ρ A H locs ls hX hN hK hA hg hl hP hD hS)
theorem ab_bipush {z : Int} {v : Int32} (hd : decode y.2.1 pc = .ok (.bipush z, 2)) (hv : (Int8.ofInt z).toInt32 = v) (k : am_B sd y d mc ms I0 J1 I1 Q (pc + 2) L (.int v :: stk) σ J I n ns) : am_B sd y d mc ms I0 J1 I1 Q pc L stk σ J I n ns :=
  fun p l e s m args below meth c D K ρ0 ρ A H locs ls hX hN hK hA hg hl hP hD hS => lv_bipush hX.1 hX.2.1 hd hv (k p l e s m args below meth c D K ρ0 ρ A H locs ls hX hN hK hA hg hl hP hD hS)
theorem ab_sipush {z : Int} {v : Int32} (hd : decode y.2.1 pc = .ok (.sipush z, 3)) (hv : (Int16.ofInt z).toInt32 = v) (k : am_B sd y d mc ms I0 J1 I1 Q (pc + 3) L (.int v :: stk) σ J I n ns) : am_B sd y d mc ms I0 J1 I1 Q pc L stk σ J I n ns :=
  fun p l e s m args below meth c D K ρ0 ρ A H locs ls hX hN hK hA hg hl hP hD hS => lv_sipush hX.1 hX.2.1 hd hv (k p l e s m args below meth c D K ρ0 ρ A H locs ls hX hN hK hA hg hl hP hD hS)
theorem ab_aload_n {w : Fin 4} {i : Nat} {x : Nat} (hd : decode y.2.1 pc = .ok (.aload_n w, 1)) (hi : (w : Nat) = i) (hL : L[i]? = some (some (.ref x))) (k : am_B sd y d mc ms I0 J1 I1 Q (pc + 1) L (.ref x :: stk) σ J I n ns) : am_B sd y d mc ms I0 J1 I1 Q pc L stk σ J I n ns :=
  fun p l e s m args below meth c D K ρ0 ρ A H locs ls hX hN hK hA hg hl hP hD hS => lv_aload_n hX.1 hX.2.1 hd hi (hl.at hL) (k p l e s m args below meth c D K ρ0 ρ A H locs ls hX hN hK hA hg hl hP hD hS)
theorem ab_dup {x : Nat} (hd : decode y.2.1 pc = .ok (.dup, 1)) (k : am_B sd y d mc ms I0 J1 I1 Q (pc + 1) L (.ref x :: .ref x :: stk) σ J I n ns) : am_B sd y d mc ms I0 J1 I1 Q pc L (.ref x :: stk) σ J I n ns :=
  fun p l e s m args below meth c D K ρ0 ρ A H locs ls hX hN hK hA hg hl hP hD hS => lv_dup hX.1 hX.2.1 hd rfl (k p l e s m args below meth c D K ρ0 ρ A H locs ls hX hN hK hA hg hl hP hD hS)
/-- Object's own beginning -/
theorem ab_obj {idx x : Nat} (hd : decode y.2.1 pc = .ok (.invokespecial idx, 3)) (hw : Cond.methodLink y.1.cls idx Lib.objectInit ∈ am_tbl ∧ Cond.instanceMethod Lib.objectInit ∈ am_tbl ∧ Cond.code Lib.objectInit ⟨#[0xb1]⟩ 1 none ∈ am_tbl) (hr : (stk.map fun v => v.category).sum ≤ 8) (hd1 : 1 ≤ d) (k : am_B sd y d mc ms I0 J1 I1 Q (pc + 3) L stk σ J I n ns) : am_B sd y d mc ms I0 J1 I1 Q pc L (.ref x :: stk) σ J I n ns := by
  intro p l e s m args below meth c D K ρ0 ρ A H locs ls hX hN hK hA hg hl hP hD hS
  have ht := hX.2.2.2.2.2.2
  have hr2 : ((stk.map (am_v ρ)).map fun v => v.category).sum ≤ 8 := by rw [List.map_map]; have : ((fun v => v.category) ∘ am_v ρ) = fun v => v.category := funext (fun v => am_v_cat ρ v); rw [this]; exact hr
  refine W.objInit hX.1 hX.2.1 hX.2.2.2.2.2.1 (ht _ hw.1) (ht _ hw.2.1) (ht _ hw.2.2) rfl (hl.1.trans hX.2.2.1.symm) rfl hd hd1 ?_ (k p l e s m args below meth c D K ρ0 ρ A H locs ls hX hN hK hA hg hl hP hD hS)
  have h8 : 2 * (F0 m pc ls (List.map (am_v ρ) (.ref x :: stk))).monitorRoom + ((stk.map (am_v ρ)).map fun v => v.category).sum ≤ 8 := lv_room hr2
  show _ + 12 ≤ 40 * d
  exact Nat.le_trans (Nat.add_le_add_right h8 12) (by omega)
/-- a new array -/
theorem ab_newa {o ci k t N i : Nat} {v : Int32} {at0 : ArrayType} (hd : decode y.2.1 pc = .ok (.newarray at0, 2)) (ha : am_at t = at0) (hw : Cond.arrayClass (newarray.typeOf at0) ∈ am_tbl) (ho : am_k sd o = ci) (hc : ci < 12) (hk : am_fk ci k = (3, t, N)) (ht : t < 3) (hv : v.toNatClampNeg = N ∧ ¬ v < 0 ∧ N * 4 ≤ 536870912) (hz : am_A σ o k = fun _ => 0) (hi : am_aid o k = i) (h2 : i < 2000)
    (hI : I.contains i = false) (hI0 : I0.contains i = false) (hJ : am_rJ sd (am_P1 i) σ J = true) (hL : am_rL (am_P1 i) L = true) (hs : am_rS (am_P1 i) stk = true) (hn : n + 1 ≤ mc) (hns : ns + N ≤ ms)
    (kk : am_B sd y d mc ms I0 J1 I1 Q (pc + 2) L (.ref i :: stk) σ J (I ++ [i]) (n + 1) (ns + N)) : am_B sd y d mc ms I0 J1 I1 Q pc L (.int v :: stk) σ J I n ns := by
  intro p l e s m args below meth c D K ρ0 ρ A H locs ls hX hN hK hA hg hl hP hD hS
  have hk63 : k < 63 := Nat.lt_trans (am_fk_lt hc (by rw [hk]; exact (by decide : 3 < 9))) (am_nf_lt ci hc)
  have hT : (am_tys K)[t]? = some (K t, newarray.typeOf at0) := by
    subst ha
    match t, ht with
    | 0, _ => rfl
    | 1, _ => rfl
    | 2, _ => rfl
  refine va_newa (ty := newarray.typeOf at0) (a0 := (N, .inl (fun _ => 0))) hX.1 hX.2.1 (hX.2.2.2.2.2.2 _ hw) rfl hK hP hD hS hA.1 ?_ hv.2.1 hv.1 ?_ hn hns hd ?_
  · intro cA
    subst ha
    match t, ht with
    | 0, _ => rfl
    | 1, _ => rfl
    | 2, _ => rfl
  · refine Nat.le_trans (Nat.mul_le_mul_left N ?_) hv.2.2
    subst ha
    match t, ht with
    | 0, _ => decide
    | 1, _ => decide
    | 2, _ => decide
  · intro q cA H1 hK1 hP1 hD1 hS1
    have hcA : cA = K t := by
      have h1 := (hK1.2 (am_tys K).length (cA, newarray.typeOf at0) (by rw [List.getElem?_append_right (Nat.le_refl _)]; simp)).2
      have h3 := (hK.2 t _ hT).2
      subst ha
      match t, ht with
      | 0, _ => exact Option.some.inj (h1.symm.trans h3)
      | 1, _ => exact Option.some.inj (h1.symm.trans h3)
      | 2, _ => exact Option.some.inj (h1.symm.trans h3)
    subst hcA
    have hE := am_wb_up (K := K) (ρ := ρ) (sd := sd) (σ := σ) (J := J) (I := I) (i := i) (q := q) (ce := .inl (K t, N, .inl (fun _ => 0))) hJ hI (by rw [← hi, am_cb_a ho hk63, hk, hz])
    rw [hE] at hP1 hD1
    have h9 := kk p l e s m args below meth c D K ρ0 (am_up ρ i q) A H1 locs ls hX hN hK (hA.up h2) (hg.up hI0 h2) (hl.re am_up_ne hL) hP1 hD1 hS1
    have h10 : am_up ρ i q i = q := if_pos rfl
    rw [List.map_cons, am_S_re (ρ := ρ) (am_up_ne (ρ := ρ) (i := i) (q := q)) hs] at h9
    simp only [am_v, h10] at h9
    exact h9
/-- a new object -/
theorem ab_new {o ci idx i : Nat} (hd : decode y.2.1 pc = .ok (.new idx, 3)) (hw : am_nw y.1.cls idx ci) (ho : am_k sd o = ci) (hc : ci < 12) (hz : (∀ k, am_I σ o k = 0) ∧ am_J σ o = 0) (hi : am_oid o = i) (h2 : i < 2000)
    (hI : I.contains i = false) (hI0 : I0.contains i = false) (hJo : J.all (fun q => !(q.1 == o)) = true) (hJ : am_rJ sd (am_P1 i) σ J = true) (hL : am_rL (am_P1 i) L = true) (hs : am_rS (am_P1 i) stk = true) (hn : n + 1 ≤ mc) (hns : ns + am_nf ci ≤ ms)
    (kk : am_B sd y d mc ms I0 J1 I1 Q (pc + 3) L (.ref i :: stk) σ J (I ++ [i]) (n + 1) (ns + am_nf ci)) : am_B sd y d mc ms I0 J1 I1 Q pc L stk σ J I n ns := by
  intro p l e s m args below meth c D K ρ0 ρ A H locs ls hX hN hK hA hg hl hP hD hS
  obtain ⟨C, F, N, ty, ⟨g1, g2, g3, g4, g5, g6⟩, g7, g8⟩ := am_cg_all ci hc
  obtain ⟨C', F', N', w0, w1, w2, w3⟩ := hw
  rw [g1] at w0
  injection w0 with w0
  injection w0 with w0 w00
  injection w00 with w00 w01
  subst w0; subst w00; subst w01
  have ht := hX.2.2.2.2.2.2
  subst g2
  refine va_new (D := D) (ci := ci) (fs := (List.range (am_nf ci)).map (fun k => am_v (am_up ρ i 0) (am_fb J σ ci o k))) hX.1 hX.2.1 ht g3 ty g4 hX.2.2.2.2.2.1 (ht _ w1) (ht _ w2) (ht _ w3) hK hP hD hS hA.1 g1 ?_ hn hns hd ?_
  · intro j hj
    rw [g7 j hj]
    have hnJ : (o, j) ∉ J := fun h => by simpa using List.all_eq_true.mp hJo _ h
    have e1 : am_fb J σ ci o j = am_dv (am_fk ci j).1 := by
      unfold am_fb am_dv
      by_cases h3 : (am_fk ci j).1 < 3
      · rw [if_pos (Or.inl h3)]
        have h4 : (am_fk ci j).1 = 0 ∨ (am_fk ci j).1 = 1 ∨ (am_fk ci j).1 = 2 := by omega
        unfold am_fa
        rcases h4 with h4 | h4 | h4 <;> rw [h4] <;> simp [hz.1, hz.2]
      · rw [if_neg (fun q => q.elim h3 hnJ), if_neg (by omega), if_neg (by omega)]
    have e2 : am_v (am_up ρ i 0) (am_dv (am_fk ci j).1) = am_dv (am_fk ci j).1 := by
      unfold am_dv
      split
      · rfl
      · split <;> rfl
    simp [vp_V, hj, e1, e2]
  · intro q H1 hP1 hD1 hS1
    have hfs : (List.range (am_nf ci)).map (fun k => am_v (am_up ρ i 0) (am_fb J σ ci o k)) = (List.range (am_nf ci)).map (fun k => am_v (am_up ρ i q) (am_fb J σ ci o k)) :=
      List.map_congr_left (fun k _ => by
        have h9 := am_fb_rp (sd := sd) (o := o) (k := k) hJ
        rw [ho] at h9
        rw [am_rp_v (ρ := ρ) am_up_ne h9, am_rp_v (ρ := ρ) am_up_ne h9])
    rw [hfs] at hP1 hD1
    have hE := am_wb_up (K := K) (ρ := ρ) (sd := sd) (σ := σ) (J := J) (I := I) (i := i) (q := q) (ce := .inr (ci, (List.range (am_nf ci)).map (fun k => am_v (am_up ρ i q) (am_fb J σ ci o k)))) hJ hI ((congrArg (am_cb K (am_up ρ i q) sd σ J) hi.symm).trans (am_cb_o ho))
    rw [hE] at hP1 hD1
    have h9 := kk p l e s m args below meth c D K ρ0 (am_up ρ i q) A H1 locs ls hX hN hK (hA.up h2) (hg.up hI0 h2) (hl.re am_up_ne hL) hP1 hD1 hS1
    have h10 : am_up ρ i q i = q := if_pos rfl
    rw [List.map_cons, am_S_re (ρ := ρ) (am_up_ne (ρ := ρ) (i := i) (q := q)) hs] at h9
    simp only [am_v, h10] at h9
    exact h9
end AMB
