/-! BUILDING A WORLD: only the cells I are there yet, and of their references only J are set -/
def am_fb (J : List (Nat × Nat)) (σ : am_St) (ci o k : Nat) : Value := if (am_fk ci k).1 < 3 ∨ (o, k) ∈ J then am_fa σ ci o k else .null
def am_cb (K : Nat → ClassId) (ρ : Nat → Nat) (sd : Bool) (σ : am_St) (J : List (Nat × Nat)) (i : Nat) : va_E :=
  if i % 64 = 0 then .inr (am_k sd (i / 64), (List.range (am_nf (am_k sd (i / 64)))).map (fun k => am_v ρ (am_fb J σ (am_k sd (i / 64)) (i / 64) k)))
  else .inl (K (am_fk (am_k sd (i / 64)) (i % 64 - 1)).2.1, (am_fk (am_k sd (i / 64)) (i % 64 - 1)).2.2, .inl (am_A σ (i / 64) (i % 64 - 1)))
def am_wb (K : Nat → ClassId) (ρ : Nat → Nat) (sd : Bool) (σ : am_St) (J : List (Nat × Nat)) (I : List Nat) : va_W := I.map (fun i => (ρ i, am_cb K ρ sd σ J i))
/-- references only to what P holds of -/
def am_rp (P : Nat → Bool) : Value → Bool
  | .ref j => P j
  | _ => true
theorem am_rp_v {P : Nat → Bool} {ρ ρ' : Nat → Nat} (h : ∀ j, P j = true → ρ' j = ρ j) {v : Value} (hv : am_rp P v = true) : am_v ρ' v = am_v ρ v := by
  cases v <;> first | rfl | (simp only [am_v]; rw [h _ hv])
def am_rJ (sd : Bool) (P : Nat → Bool) (σ : am_St) (J : List (Nat × Nat)) : Bool := J.all (fun q => am_rp P (am_fa σ (am_k sd q.1) q.1 q.2))
def am_rL (P : Nat → Bool) (L : List (Option Value)) : Bool := L.all (fun x => match x with | some v => am_rp P v | none => true)
def am_rS (P : Nat → Bool) (stk : List Value) : Bool := stk.all (am_rp P)
theorem am_fb_rp {sd : Bool} {P : Nat → Bool} {σ : am_St} {J : List (Nat × Nat)} (h : am_rJ sd P σ J = true) (o k : Nat) : am_rp P (am_fb J σ (am_k sd o) o k) = true := by
  unfold am_fb
  by_cases hJ : (o, k) ∈ J
  · rw [if_pos (Or.inr hJ)]
    exact List.all_eq_true.mp h _ hJ
  · by_cases h3 : (am_fk (am_k sd o) k).1 < 3
    · rw [if_pos (Or.inl h3)]
      have h4 : (am_fk (am_k sd o) k).1 = 0 ∨ (am_fk (am_k sd o) k).1 = 1 ∨ (am_fk (am_k sd o) k).1 = 2 := by omega
      unfold am_fa
      rcases h4 with h4 | h4 | h4 <;> rw [h4] <;> rfl
    · rw [if_neg (fun q => q.elim h3 hJ)]
      rfl
theorem am_cb_congr {K : Nat → ClassId} {sd : Bool} {P : Nat → Bool} {ρ ρ' : Nat → Nat} {σ : am_St} {J : List (Nat × Nat)} (hP : ∀ j, P j = true → ρ' j = ρ j) (h : am_rJ sd P σ J = true) (i : Nat) : am_cb K ρ' sd σ J i = am_cb K ρ sd σ J i := by
  unfold am_cb
  split
  · congr 2
    exact List.map_congr_left (fun k _ => am_rp_v hP (am_fb_rp h _ k))
  · rfl
theorem am_wb_congr {K : Nat → ClassId} {sd : Bool} {P : Nat → Bool} {ρ ρ' : Nat → Nat} {σ : am_St} {J : List (Nat × Nat)} {I : List Nat} (hP : ∀ j, P j = true → ρ' j = ρ j) (h : am_rJ sd P σ J = true) (hI : ∀ i ∈ I, P i = true) : am_wb K ρ' sd σ J I = am_wb K ρ sd σ J I :=
  List.map_congr_left (fun i hi => by rw [am_cb_congr hP h, hP i (hI i hi)])
theorem am_L.re {P : Nat → Bool} {ρ ρ' : Nat → Nat} {ls : Array Slot} {n : Nat} {L : List (Option Value)} (hP : ∀ j, P j = true → ρ' j = ρ j) (h : am_rL P L = true) (hl : am_L ρ ls n L) : am_L ρ' ls n L := by
  refine ⟨hl.1, hl.2.1, fun q hq => hl.2.2 q ?_⟩
  obtain ⟨j, v, hj, rfl⟩ := (am_lv_mem L 0).mp hq
  have hv := List.all_eq_true.mp h _ (List.mem_of_getElem? hj)
  exact (am_lv_mem L 0).mpr ⟨j, v, hj, by rw [am_rp_v hP hv]⟩
theorem am_S_re {P : Nat → Bool} {ρ ρ' : Nat → Nat} {stk : List Value} (hP : ∀ j, P j = true → ρ' j = ρ j) (h : am_rS P stk = true) : stk.map (am_v ρ') = stk.map (am_v ρ) :=
  List.map_congr_left (fun v hv => am_rp_v hP (List.all_eq_true.mp h v hv))
theorem am_wb_at {K : Nat → ClassId} {ρ : Nat → Nat} {sd : Bool} {σ : am_St} {J : List (Nat × Nat)} {I : List Nat} {i : Nat} (h : i ∈ I) : ∃ q0 : Nat, I[q0]? = some i ∧ (am_wb K ρ sd σ J I)[q0]? = some (ρ i, am_cb K ρ sd σ J i) := by
  obtain ⟨q0, hq⟩ := List.getElem?_of_mem h
  exact ⟨q0, hq, by unfold am_wb; rw [List.getElem?_map, hq]; rfl⟩
theorem am_wb_set {A : Nat → Prop} {K : Nat → ClassId} {ρ : Nat → Nat} {sd : Bool} {σ σ' : am_St} {J J' : List (Nat × Nat)} {I : List Nat} {i q0 : Nat} {c : va_E} (hD : va_D A (am_wb K ρ sd σ J I)) (hq : I[q0]? = some i) (hc : am_cb K ρ sd σ' J' i = c) (ho : ∀ j : Nat, j ≠ i → am_cb K ρ sd σ' J' j = am_cb K ρ sd σ J j) : (am_wb K ρ sd σ J I).set q0 (ρ i, c) = am_wb K ρ sd σ' J' I := by
  apply List.ext_getElem?
  intro q
  have hat : ∀ (q j : Nat), I[q]? = some j → (am_wb K ρ sd σ J I)[q]? = some (ρ j, am_cb K ρ sd σ J j) := fun q j h => by unfold am_wb; rw [List.getElem?_map, h]; rfl
  have hl : q0 < I.length := (List.getElem?_eq_some_iff.mp hq).1
  by_cases e : q0 = q
  · subst e
    rw [List.getElem?_set, if_pos rfl, if_pos (by unfold am_wb; rw [List.length_map]; exact hl), ← hc]
    unfold am_wb
    rw [List.getElem?_map, hq]
    rfl
  · rw [List.getElem?_set, if_neg e]
    cases hj : I[q]? with
    | none =>
      unfold am_wb
      rw [List.getElem?_map, List.getElem?_map, hj]
      rfl
    | some j =>
      have hji : j ≠ i := fun e2 => by
        subst e2
        exact e (hD.1 q0 q _ _ (hat q0 j hq) (hat q j hj) rfl)
      rw [hat q j hj]
      unfold am_wb
      rw [List.getElem?_map, hj]
      simp [ho j hji]
theorem am_cb_o {K : Nat → ClassId} {ρ : Nat → Nat} {sd : Bool} {σ : am_St} {J : List (Nat × Nat)} {o ci : Nat} (h : am_k sd o = ci) : am_cb K ρ sd σ J (am_oid o) = .inr (ci, (List.range (am_nf ci)).map (fun k => am_v ρ (am_fb J σ ci o k))) := by
  unfold am_cb am_oid
  rw [if_pos (Nat.mul_mod_right 64 o), Nat.mul_div_cancel_left o (by decide), h]
theorem am_cb_a {K : Nat → ClassId} {ρ : Nat → Nat} {sd : Bool} {σ : am_St} {J : List (Nat × Nat)} {o ci k : Nat} (h : am_k sd o = ci) (hk : k < 63) : am_cb K ρ sd σ J (am_aid o k) = .inl (K (am_fk ci k).2.1, (am_fk ci k).2.2, .inl (am_A σ o k)) := by
  have e1 : (64 * o + k + 1) % 64 = k + 1 := by omega
  have e2 : (64 * o + k + 1) / 64 = o := by omega
  unfold am_cb am_aid
  rw [e1, e2, if_neg (by omega), h, Nat.add_sub_cancel]
/-- one field more -/
theorem am_cb_put {K : Nat → ClassId} {ρ : Nat → Nat} {sd : Bool} {σ σ' : am_St} {J J' : List (Nat × Nat)} {o k : Nat} {v : Value} (hv : am_fb J' σ' (am_k sd o) o k = v) (hf : ∀ k', k' ≠ k → am_fb J' σ' (am_k sd o) o k' = am_fb J σ (am_k sd o) o k') : am_cb K ρ sd σ' J' (am_oid o) = .inr (am_k sd o, ((List.range (am_nf (am_k sd o))).map (fun k => am_v ρ (am_fb J σ (am_k sd o) o k))).set k (am_v ρ v)) := by
  rw [am_cb_o rfl]
  congr 2
  apply List.ext_getElem?
  intro q
  rw [List.getElem?_set, List.getElem?_map, List.getElem?_map]
  by_cases e : k = q
  · subst e
    rw [if_pos rfl]
    by_cases hl : k < am_nf (am_k sd o)
    · simp [hl, hv]
    · simp [hl]
  · rw [if_neg e]
    rcases Nat.lt_or_ge q (am_nf (am_k sd o)) with hl | hl
    · simp [hl, hf q (fun h => e h.symm)]
    · simp [Nat.not_lt.mpr hl]
theorem am_cb_else {K : Nat → ClassId} {ρ : Nat → Nat} {sd : Bool} {σ σ' : am_St} {J J' : List (Nat × Nat)} {o : Nat} (hA : ∀ o' k', am_A σ' o' k' = am_A σ o' k') (hf : ∀ ci o' k', o' ≠ o → am_fb J' σ' ci o' k' = am_fb J σ ci o' k') (j : Nat) (hj : j ≠ am_oid o) : am_cb K ρ sd σ' J' j = am_cb K ρ sd σ J j := by
  unfold am_cb
  by_cases e : j % 64 = 0
  · rw [if_pos e, if_pos e]
    have hne : j / 64 ≠ o := fun h => hj (by unfold am_oid; omega)
    congr 2
    exact List.map_congr_left (fun k _ => by rw [hf _ _ k hne])
  · rw [if_neg e, if_neg e, hA]
/-! the judgement -/
def am_rB (d mc ms : Nat) : Room := { frames := d, cells := mc, slots := ms, locals := 40 * d }
def am_ag (I : List Nat) (ρ ρ' : Nat → Nat) : Prop := (∀ i ∈ I, ρ' i = ρ i) ∧ ρ' 2000 = ρ 2000 ∧ ρ' 2001 = ρ 2001 ∧ ρ' 2002 = ρ 2002
theorem am_ag.rf (I : List Nat) (ρ : Nat → Nat) : am_ag I ρ ρ := ⟨fun _ _ => rfl, rfl, rfl, rfl⟩
theorem am_Z.re {I : List Nat} {ρ ρ' : Nat → Nat} {A : Nat → Prop} {U : State} {H : Heap} (hg : am_ag I ρ ρ') (h : am_Z ρ A U H) : am_Z ρ' A U H := by
  unfold am_Z at h ⊢
  rw [hg.2.1, hg.2.2.1, hg.2.2.2]
  exact h
def am_Wb (sd : Bool) (D : va_G) (K : Nat → ClassId) (ρ : Nat → Nat) (A : Nat → Prop) (σ : am_St) (J : List (Nat × Nat)) (I : List Nat) (t : State) : Prop := va_P D am_cl (am_wb K ρ sd σ J I) t.heap ∧ va_K D am_cl (am_tys K) t ∧ va_D A (am_wb K ρ sd σ J I)
def am_Qb (sd : Bool) (D : va_G) (K : Nat → ClassId) (ρ : Nat → Nat) (A : Nat → Prop) (I0 : List Nat) (J1 : List (Nat × Nat)) (I1 : List Nat) (Q : am_St → Prop) : Array Value → State → Outcome → State → Prop := fun _ st oc t => (∃ (ρ' : Nat → Nat) (σ : am_St), oc = .returned none ∧ am_ag I0 ρ ρ' ∧ Q σ ∧ am_Wb sd D K ρ' A σ J1 I1 t) ∧ va_F A st t
/-- the links between nest mates, which the words of am_tbl leave out -/
def am_N (U : State) : Prop := va_Nw (.methodLinkNest na_R10 19 ya_2_init.1 "InvariantLearner") U ∧ va_Nw (.methodLinkNest na_R4 11 ya_7_init.1 "InvariantLearner") U ∧ va_Nw (.methodLinkNest na_R10 41 ya_9_init.1 "InvariantLearner") U ∧ va_Nw (.methodLinkNest na_R1 11 ya_5_init.1 "InvariantLearner") U ∧ va_Nw (.methodLinkNest na_R1 20 ya_8_init.1 "InvariantLearner") U
theorem am_N.same {u U : State} (h : u.vm = U.vm) (q : am_N u) : am_N U := ⟨va_Nw.same rfl h q.1, va_Nw.same rfl h q.2.1, va_Nw.same rfl h q.2.2.1, va_Nw.same rfl h q.2.2.2.1, va_Nw.same rfl h q.2.2.2.2⟩
theorem am_N.warm {s U : State} (h : s.WarmedH U.vm) (q : am_N s) : am_N U := ⟨va_Nw.warmM h q.1, va_Nw.warmM h q.2.1, va_Nw.warmM h q.2.2.1, va_Nw.warmM h q.2.2.2.1, va_Nw.warmM h q.2.2.2.2⟩
def am_M (meth : Method) (s : State) : Prop := meth.name = "<init>" ∧ am_N s
def am_B (sd : Bool) (y : am_Y) (d mc ms : Nat) (I0 : List Nat) (J1 : List (Nat × Nat)) (I1 : List Nat) (Q : am_St → Prop) (pc : Nat) (L : List (Option Value)) (stk : List Value) (σ : am_St) (J : List (Nat × Nat)) (I : List Nat) (n ns : Nat) : Prop :=
  ∀ (p : Program) (l : Launch) (e : Env) (s : State) (m : MethodId) (args : Array Value) (below : List Frame) (meth : Method) (c : Code) (D : va_G) (K : Nat → ClassId) (ρ0 ρ : Nat → Nat) (A : Nat → Prop) (H : Heap) (locs : List Loc) (ls : Array Slot),
    am_X y p s m args meth c → am_M meth s → va_K D am_cl (am_tys K) s → am_HA ρ s A → am_ag I0 ρ0 ρ → am_L ρ ls y.2.2.1 L → va_P D am_cl (am_wb K ρ sd σ J I) H → va_D A (am_wb K ρ sd σ J I) → va_S A s.heap H locs →
    W p l e (am_rB d mc ms) s m args below meth c H locs n ns (MQ below (am_Qb sd D K ρ0 A I0 J1 I1 Q) args s mc ms A) (F0 m pc ls (stk.map (am_v ρ)))
def am_D (sd : Bool) (y : am_Y) (d mc ms : Nat) (as : List Value) (σ : am_St) (J : List (Nat × Nat)) (I : List Nat) (J1 : List (Nat × Nat)) (I1 : List Nat) (Q : am_St → Prop) : Prop :=
  ∀ (l : Launch) (D : va_G) (K : Nat → ClassId) (ρ : Nat → Nat) (sz : Nat), Met l y.1 (.code y.1 y.2.1 y.2.2.1 y.2.2.2 :: am_tbl) (am_rB d mc ms) (va_Pc (as.map (am_v ρ)) (fun U => U.heap.size = sz ∧ am_N U ∧ am_Z ρ (va_A (am_wb K ρ sd σ J I) sz) U U.heap ∧ am_Wb sd D K ρ (fun _ => True) σ J I U)) (am_Qb sd D K ρ (va_A (am_wb K ρ sd σ J I) sz) I J1 I1 Q) mc ms (va_A (am_wb K ρ sd σ J I) sz)
theorem am_Benter {sd : Bool} {y : am_Y} {d mc ms : Nat} {as : List Value} {σ : am_St} {J J1 : List (Nat × Nat)} {I I1 : List Nat} {Q : am_St → Prop} (hy : plainName y.1.cls = true) (hnm : y.1.name = "<init>") (hc : ∀ v ∈ as, v.category = 1) (hn : as.length ≤ y.2.2.1) (k : am_B sd y d mc ms I J1 I1 Q 0 (am_L0 as y.2.2.1) [] σ J I 0 0) : am_D sd y d mc ms as σ J I J1 I1 Q := by
  intro l D K ρ sz
  refine Met.ofW (cc := y.2.1) (maxL := y.2.2.1) (ret := y.2.2.2) hy rfl ?_
  intro p e s m args below meth c s₁ B hml hv
  obtain ⟨rfl, hsz, hNN, hZ, hP, hK, hD0⟩ := hv
  have hx := B.exec
  have hb := B.bytes
  have hr := B.returns
  have hts := atoms_spec (ws := .code y.1 y.2.1 y.2.2.1 y.2.2.2 :: am_tbl) B.pre
  have hown : s.vm.findClass y.1.cls = some m.cls := findClass_of_methodNamed B.named
  have hin : meth.name = "<init>" := ((name_of_methodNamed B.named B.method).1).trans hnm
  have hlocks := B.notSynchronized
  subst hsz
  have hD := hD0.self (sz := s.heap.size)
  have hA : am_HA ρ s (va_A (am_wb K ρ sd σ J I) s.heap.size) := ⟨fun q h => Or.inr h, hZ⟩
  have hl := lv_entry (as.map (am_v ρ)) (n := y.2.2.1) (by rw [am_sl ρ as hc]; exact hn)
  rw [lg_entry_eq]
  have hl2 : am_L ρ ((lg_sl (as.map (am_v ρ)) ++ List.replicate (y.2.2.1 - (lg_sl (as.map (am_v ρ))).length) Slot.unset).toArray) y.2.2.1 (am_L0 as y.2.2.1) := by
    refine ⟨hl.1, hl.2.1, fun q hq => hl.2.2 q ?_⟩
    rw [am_args ρ as 0 hc]
    obtain ⟨j, v, hj, rfl⟩ := (am_lv_mem _ 0).mp hq
    refine (am_lv_mem _ 0).mpr ⟨j, v, ?_, rfl⟩
    unfold am_L0 at hj
    rw [List.getElem?_append] at hj
    split at hj
    · exact hj
    · rw [List.getElem?_replicate] at hj
      split at hj <;> simp at hj
  exact k p l e s m _ below meth c D K ρ ρ _ s.heap [] _ ⟨hx, hb, hml, hr, hlocks, hown, fun w hw => hts w (List.mem_cons_of_mem _ hw)⟩ ⟨hin, hNN⟩ hK hA (am_ag.rf I ρ) hl2 hP hD va_S.rf
