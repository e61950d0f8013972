/-! the class's plan: one row copied into another; atoms, sets -/
section COPY
variable {sd : Bool} {y : am_Y} {d : Nat} {Q : Option Value → am_St → Prop} {pc : Nat} {L : List (Option Value)} {σ : am_St}
theorem am_copyi {idx o ci k n o2 ci2 k2 n2 : Nat} {sp dp le : Int32} (hd : decode y.2.1 pc = .ok (.invokestatic idx, 3)) (hw : Cond.methodLink y.1.cls idx arraycopyName ∈ am_tbl ∧ Cond.native arraycopyName ∈ am_tbl ∧ Cond.static arraycopyName ∈ am_tbl ∧ Cond.initialized "java/lang/System" ∈ am_tbl)
    (ho : am_k sd o = ci) (hc : ci < 12) (hk : am_fk ci k = (3, 0, n)) (ho2 : am_k sd o2 = ci2) (hc2 : ci2 < 12) (hk2 : am_fk ci2 k2 = (3, 0, n2)) (h1 : ¬ sp < 0) (h2 : ¬ dp < 0) (h3 : ¬ le < 0) (h4 : sp.toNatClampNeg + le.toNatClampNeg ≤ n) (h5 : dp.toNatClampNeg + le.toNatClampNeg ≤ n2)
    (kk : am_T sd y (d + 1) Q (pc + 3) L [] (am_sA σ o2 k2 (va_cpy (am_A σ o k) (am_A σ o2 k2) sp.toNatClampNeg dp.toNatClampNeg le.toNatClampNeg))) : am_T sd y (d + 1) Q pc L [.int le, .int dp, .ref (am_aid o2 k2), .int sp, .ref (am_aid o k)] σ := by
  intro p l e s m args below meth c D K ρ A H locs ls hX hK hA hl hP hD hS
  have g3 : (am_fk ci k).1 = 3 := by rw [hk]
  have g63 : k < 63 := Nat.lt_trans (am_fk_lt hc (by rw [g3]; decide)) (am_nf_lt ci hc)
  have g32 : (am_fk ci2 k2).1 = 3 := by rw [hk2]
  have g632 : k2 < 63 := Nat.lt_trans (am_fk_lt hc2 (by rw [g32]; decide)) (am_nf_lt ci2 hc2)
  obtain ⟨q0, i1, i2⟩ := am_at_w (K := K) (ρ := ρ) (σ := σ) (am_in_a ho hc g3)
  rw [am_ce_a ho g63, hk] at i2
  obtain ⟨q1, j1, j2⟩ := am_at_w (K := K) (ρ := ρ) (σ := σ) (am_in_a ho2 hc2 g32)
  rw [am_ce_a ho2 g632, hk2] at j2
  have hset := am_set_w (K := K) (ρ := ρ) (σ := σ) (σ' := am_sA σ o2 k2 (va_cpy (am_A σ o k) (am_A σ o2 k2) sp.toNatClampNeg dp.toNatClampNeg le.toNatClampNeg)) j1 (by rw [am_ce_a ho2 g632, hk2, am_A_sA, if_pos ⟨rfl, rfl⟩]) (fun j hj => am_ce_elseA j hj)
  have ht := hX.2.2.2.2.2.2
  refine va_copyi (ty := .int) hX.1 hX.2.1 (hX.2.2.1.trans hl.1.symm) hX.2.2.2.2.2.1 (ht _ hw.1) (ht _ hw.2.1) (ht _ hw.2.2.1) (ht _ hw.2.2.2) hK hP hD hS q0 q1 0 0 i2 j2 rfl rfl rfl h1 h2 h3 h4 h5 (fun _ _ => rfl) (by show 1 ≤ d + 1; omega) (by show 0 + (nativeFrameWords "java/lang/System" "arraycopy" 5 + 11) ≤ 40 * (d + 1); rw [show nativeFrameWords "java/lang/System" "arraycopy" 5 = 7 from by decide]; omega) hd (fun H1 locs1 hP1 hD1 hS1 => ?_)
  rw [hset] at hP1 hD1
  exact kk p l e s m args below meth c D K ρ A H1 locs1 ls hX hK hA hl hP1 hD1 hS1
end COPY
theorem cw_2_69 : Cond.methodLink ya_2_addAtom.1.cls 69 arraycopyName ∈ am_tbl ∧ Cond.native arraycopyName ∈ am_tbl ∧ Cond.static arraycopyName ∈ am_tbl ∧ Cond.initialized "java/lang/System" ∈ am_tbl := ⟨am_in4 35 rfl rfl, am_in4 37 rfl rfl, am_in4 36 rfl rfl, am_in1 19 rfl rfl⟩
section PLANOPS
variable {d : Nat} {σ : am_St}
theorem kb_2_addAtom_10 {Q : Option Value → am_St → Prop} {a2 : Option Value} {na : Nat} (h5 : am_I σ 1 5 = nI na) (hn : na < 144) (k : am_T false ya_2_addAtom (d + 1) Q 26 [some (.ref (am_oid 1)), some (.ref (am_aid 2 9)), a2] [] (am_sA σ 1 10 (va_cpy (am_A σ 2 9) (am_A σ 1 10) 0 (4 * na) 4))) : am_T false ya_2_addAtom (d + 1) Q 10 [some (.ref (am_oid 1)), some (.ref (am_aid 2 9)), a2] [] σ := by
  have e : nI na * 4 = nI (4 * na) := by rw [show (4 : Int32) = nI 4 from rfl, nI_mul, Nat.mul_comm]
  refine am_aload_n (am_dec td_2_addAtom 4 rfl) rfl rfl (am_iconst (v := 0) (am_dec td_2_addAtom 5 rfl) (by decide) (am_aload_n (am_dec td_2_addAtom 6 rfl) rfl rfl (am_getA (am_dec td_2_addAtom 7 rfl) fl_2_18 rfl (by decide) rfl (am_aload_n (am_dec td_2_addAtom 8 rfl) rfl rfl (am_getI (am_dec td_2_addAtom 9 rfl) fl_2_53 rfl (by decide) rfl (am_iconst (v := 4) (am_dec td_2_addAtom 10 rfl) (by decide) (am_imul (am_dec td_2_addAtom 11 rfl) (am_iconst (v := 4) (am_dec td_2_addAtom 12 rfl) (by decide) ?_))))))))
  rw [h5, e]
  refine am_copyi (o := 2) (o2 := 1) (am_dec td_2_addAtom 13 rfl) cw_2_69 rfl (by decide) rfl rfl (by decide) rfl (by decide) (nI_pos (by omega)) (by decide) (by decide) (by rw [nI_clamp (show 4 * na < 2 ^ 31 by omega)]; show 4 * na + 4 ≤ 576; omega) ?_
  rw [nI_clamp (show 4 * na < 2 ^ 31 by omega)]
  exact k
theorem kb_2_addSet_13 {Q : Option Value → am_St → Prop} {x : Nat} (hx : x < 24) (k : am_T false ya_2_addSet (d + 1) Q 33 [some (.ref (am_oid 1)), some (.int (nI x)), some (.ref (am_aid 2 9))] [] (am_sA (am_sA σ 1 15 (upd (am_A σ 1 15) x 1)) 1 14 (va_cpy (am_A σ 2 9) (am_A σ 1 14) 0 (4 * x) 4))) : am_T false ya_2_addSet (d + 1) Q 13 [some (.ref (am_oid 1)), some (.int (nI x)), some (.ref (am_aid 2 9))] [] σ := by
  have e : nI x * 4 = nI (4 * x) := by rw [show (4 : Int32) = nI 4 from rfl, nI_mul, Nat.mul_comm]
  refine am_aload_n (am_dec td_2_addSet 7 rfl) rfl rfl (am_getA (am_dec td_2_addSet 8 rfl) fl_2_33 rfl (by decide) rfl (am_iload_n (am_dec td_2_addSet 9 rfl) rfl rfl (am_iconst (v := 1) (am_dec td_2_addSet 10 rfl) (by decide) (am_zast (am_dec td_2_addSet 11 rfl) rfl (by decide) rfl (vp_in_nI hx (by decide)) ?_))))
  rw [nI_clamp (show x < 2 ^ 31 by omega), show vp_nar .boolean 1 = 1 from by decide]
  refine am_aload_n (am_dec td_2_addSet 12 rfl) rfl rfl (am_iconst (v := 0) (am_dec td_2_addSet 13 rfl) (by decide) (am_aload_n (am_dec td_2_addSet 14 rfl) rfl rfl (am_getA (am_dec td_2_addSet 15 rfl) fl_2_30 rfl (by decide) rfl (am_iload_n (am_dec td_2_addSet 16 rfl) rfl rfl (am_iconst (v := 4) (am_dec td_2_addSet 17 rfl) (by decide) (am_imul (am_dec td_2_addSet 18 rfl) (am_iconst (v := 4) (am_dec td_2_addSet 19 rfl) (by decide) ?_)))))))
  rw [e]
  refine am_copyi (o := 2) (o2 := 1) (am_dec td_2_addSet 20 rfl) cw_2_69 rfl (by decide) rfl rfl (by decide) rfl (by decide) (nI_pos (by omega)) (by decide) (by decide) (by rw [nI_clamp (show 4 * x < 2 ^ 31 by omega)]; show 4 * x + 4 ≤ 96; omega) ?_
  rw [nI_clamp (show 4 * x < 2 ^ 31 by omega)]
  exact k
/-- of the plan only these fields and rows have changed; of the rest only the reader -/
def fr_1 (is as : List Nat) (σ τ : am_St) : Prop := (∀ k, is.contains k = false → am_I τ 1 k = am_I σ 1 k) ∧ (∀ k, as.contains k = false → am_A τ 1 k = am_A σ 1 k) ∧ ∀ o, o ≠ 1 → o ≠ 2 → am_Eo o σ τ
theorem fr_1.rf {is as : List Nat} : fr_1 is as σ σ := ⟨fun _ _ => rfl, fun _ _ => rfl, fun _ _ _ => am_Eo.rf⟩
theorem fr_1.tr {is as : List Nat} {τ υ : am_St} (h : fr_1 is as σ τ) (h' : fr_1 is as τ υ) : fr_1 is as σ υ := ⟨fun k hk => (h'.1 k hk).trans (h.1 k hk), fun k hk => (h'.2.1 k hk).trans (h.2.1 k hk), fun o a b => (h.2.2 o a b).tr (h'.2.2 o a b)⟩
theorem am_On.f1 {is as : List Nat} {τ : am_St} (h : am_On 2 σ τ) : fr_1 is as σ τ := ⟨fun k _ => h.1 1 k (by decide), fun k _ => h.2.1 1 k (by decide), fun _ _ b => h.eo b⟩
theorem fr_1.sI {is as : List Nat} {τ : am_St} (h : fr_1 is as σ τ) {k : Nat} (hk : is.contains k = true) (x : Int32) : fr_1 is as σ (am_sI τ 1 k x) := ⟨fun j hj => by rw [am_I_sI, if_neg (fun z => by rw [z.1, hk] at hj; cases hj)]; exact h.1 j hj, h.2.1, fun o a b => (h.2.2 o a b).tr ((am_On.rf.sI k x).eo a)⟩
theorem fr_1.sA {is as : List Nat} {τ : am_St} (h : fr_1 is as σ τ) {k : Nat} (hk : as.contains k = true) (f : Nat → Int32) : fr_1 is as σ (am_sA τ 1 k f) := ⟨h.1, fun j hj => by rw [am_A_sA, if_neg (fun z => by rw [z.1, hk] at hj; cases hj)]; exact h.2.1 j hj, fun o a b => (h.2.2 o a b).tr ((am_On.rf.sA k f).eo a)⟩
theorem fr_1.wid {is as is' as' : List Nat} {τ : am_St} (h : fr_1 is as σ τ) (hi : is.all (fun k => is'.contains k) = true) (ha : as.all (fun k => as'.contains k) = true) : fr_1 is' as' σ τ := ⟨fun k hk => h.1 k (ls_sub hi hk), fun k hk => h.2.1 k (ls_sub ha hk), h.2.2⟩
/-- the class's atoms -/
def cq_At (σ : am_St) (A : pa_A) : Prop := am_I σ 1 5 = nI A.1 ∧ ∀ a, a < A.1 → am_A σ 1 11 a = A.2.1 a ∧ ∀ j, j < 4 → am_A σ 1 10 (4 * a + j) = A.2.2 a j
theorem cq_At.cg {τ : am_St} {A : pa_A} (h : cq_At σ A) (h5 : am_I τ 1 5 = am_I σ 1 5) (h10 : am_A τ 1 10 = am_A σ 1 10) (h11 : am_A τ 1 11 = am_A σ 1 11) : cq_At τ A := ⟨h5.trans h.1, fun a ha => by rw [h10, h11]; exact h.2 a ha⟩
theorem cq_At.on {τ : am_St} {A : pa_A} (h : cq_At σ A) (F : am_On 2 σ τ) : cq_At τ A := h.cg (F.1 1 5 (by decide)) (F.2.1 1 10 (by decide)) (F.2.1 1 11 (by decide))
theorem sp_2_addAtom {A : pa_A} {f : Nat → Int32} (hA : cq_At σ A) (hn : A.1 < 144) (hf : rd_f f σ) (s : Int32) : am_C false ya_2_addAtom (d + 1) [.ref (am_oid 1), .ref (am_aid 2 9), .int s] σ (fun r τ => r = none ∧ am_On 1 σ τ ∧ fr_1 [5] [10, 11] σ τ ∧ cq_At τ (pa_ad A s f)) := by
  refine am_enter rfl (by simp [Value.category]) (Nat.le_of_ble_eq_true rfl) ?_
  refine kb_2_addAtom_0 (kt := fun z => absurd z (by rw [hA.1, show (144 : Int32) = nI 144 from rfl]; exact nI_ge hn (by omega))) (kf := fun _ => ?_)
  refine kb_2_addAtom_10 hA.1 hn (kb_2_addAtom_26 (hi0 := by show vp_in (am_I σ 1 5) 144; rw [hA.1]; exact vp_in_nI hn (by omega)) (k := kb_2_addAtom_46 ?_))
  have e5 : am_I (am_sA σ 1 10 (va_cpy (am_A σ 2 9) (am_A σ 1 10) 0 (4 * A.1) 4)) 1 5 = nI A.1 := hA.1
  rw [e5, nI_1, nI_clamp (show A.1 < 2 ^ 31 by omega)]
  refine ⟨rfl, ((am_On.rf.sA _ _).sA _ _).sI _ _, ((fr_1.rf.sA (by rfl) _).sA (by rfl) _).sI (by rfl) _, by rw [am_I_sI, if_pos ⟨rfl, rfl⟩]; rfl, fun a ha => ?_⟩
  have ha' : a < A.1 + 1 := ha
  have g11 : ∀ (F G : Nat → Int32) (v : Int32), am_A (am_sI (am_sA (am_sA σ 1 10 F) 1 11 G) 1 5 v) 1 11 = G := fun F G v => by show am_A (am_sA (am_sA σ 1 10 F) 1 11 G) 1 11 = G; rw [am_A_sA, if_pos ⟨rfl, rfl⟩]
  have g10 : ∀ (F G : Nat → Int32) (v : Int32), am_A (am_sI (am_sA (am_sA σ 1 10 F) 1 11 G) 1 5 v) 1 10 = F := fun F G v => by show am_A (am_sA (am_sA σ 1 10 F) 1 11 G) 1 10 = F; rw [am_A_sA, if_neg (by simp), am_A_sA, if_pos ⟨rfl, rfl⟩]
  rw [g11, g10]
  show upd (am_A σ 1 11) A.1 s a = (if a = A.1 then s else A.2.1 a) ∧ ∀ j, j < 4 → va_cpy (am_A σ 2 9) (am_A σ 1 10) 0 (4 * A.1) 4 (4 * a + j) = (if a = A.1 then f else A.2.2 a) j
  by_cases q : a = A.1
  · rw [if_pos q, if_pos q, q, upd_s]
    refine ⟨rfl, fun j hj => ?_⟩
    unfold va_cpy
    rw [if_pos (by omega), show 0 + (4 * A.1 + j - 4 * A.1) = j by omega]
    exact hf j hj
  · rw [if_neg q, if_neg q, upd_n q]
    refine ⟨(hA.2 a (by omega)).1, fun j hj => ?_⟩
    unfold va_cpy
    rw [if_neg (by omega)]
    exact (hA.2 a (by omega)).2 j hj
theorem sp_2_addSet {x : Nat} {f : Nat → Int32} (hx : x < 24) (hf : rd_f f σ) : am_C false ya_2_addSet (d + 1) [.ref (am_oid 1), .int (nI x), .ref (am_aid 2 9)] σ (fun r τ => r = none ∧ am_On 1 σ τ ∧ fr_1 [] [14, 15] σ τ ∧ am_A τ 1 15 = upd (am_A σ 1 15) x 1 ∧ (∀ j, j < 4 → am_A τ 1 14 (4 * x + j) = f j) ∧ ∀ y, y ≠ x → ∀ j, j < 4 → am_A τ 1 14 (4 * y + j) = am_A σ 1 14 (4 * y + j)) := by
  refine am_enter rfl (by simp [Value.category]) (Nat.le_of_ble_eq_true rfl) ?_
  refine kb_2_addSet_0 (kt := fun z => absurd z (nI_pos (by omega))) (kf := fun _ => ?_)
  refine kb_2_addSet_4 (kt := fun z => absurd z (by rw [show (24 : Int32) = nI 24 from rfl]; exact nI_ge hx (by omega))) (kf := fun _ => ?_)
  refine kb_2_addSet_13 hx (kb_2_addSet_33 ?_)
  have g14 : ∀ (F G : Nat → Int32), am_A (am_sA (am_sA σ 1 15 F) 1 14 G) 1 14 = G := fun F G => by rw [am_A_sA, if_pos ⟨rfl, rfl⟩]
  refine ⟨rfl, (am_On.rf.sA _ _).sA _ _, (fr_1.rf.sA (by rfl) _).sA (by rfl) _, by rw [am_A_sA, if_neg (by simp), am_A_sA, if_pos ⟨rfl, rfl⟩], fun j hj => ?_, fun y hy j hj => ?_⟩
  · rw [g14]
    unfold va_cpy
    rw [if_pos (by omega), show 0 + (4 * x + j - 4 * x) = j by omega]
    exact hf j hj
  · rw [g14]
    unfold va_cpy
    rw [if_neg (by omega)]
end PLANOPS
