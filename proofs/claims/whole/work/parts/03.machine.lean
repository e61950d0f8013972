/-! THE JUDGEMENT am_T: the kit's W with its whole context packed away. A state: int fields by object and field, arrays by object and field, long fields by object, references that change by object and field. -/
abbrev am_St : Type := (Nat → Nat → Int32) × (Nat → Nat → Nat → Int32) × (Nat → Int64) × (Nat → Nat → Nat)
def am_I (σ : am_St) (o k : Nat) : Int32 := σ.1 o k
def am_A (σ : am_St) (o k : Nat) : Nat → Int32 := σ.2.1 o k
def am_J (σ : am_St) (o : Nat) : Int64 := σ.2.2.1 o
def am_R (σ : am_St) (o k : Nat) : Nat := σ.2.2.2 o k
def am_sI (σ : am_St) (o k : Nat) (v : Int32) : am_St := (fun o' k' => if k' = k ∧ o' = o then v else σ.1 o' k', σ.2)
def am_sA (σ : am_St) (o k : Nat) (f : Nat → Int32) : am_St := (σ.1, fun o' k' => if k' = k ∧ o' = o then f else σ.2.1 o' k', σ.2.2)
def am_sJ (σ : am_St) (o : Nat) (v : Int64) : am_St := (σ.1, σ.2.1, fun o' => if o' = o then v else σ.2.2.1 o', σ.2.2.2)
def am_sR (σ : am_St) (o k : Nat) (v : Nat) : am_St := (σ.1, σ.2.1, σ.2.2.1, fun o' k' => if k' = k ∧ o' = o then v else σ.2.2.2 o' k')
theorem am_I_sI (σ : am_St) (o k o' k' : Nat) (v : Int32) : am_I (am_sI σ o k v) o' k' = if k' = k ∧ o' = o then v else am_I σ o' k' := rfl
theorem am_I_sA (σ : am_St) (o k o' k' : Nat) (v : Nat → Int32) : am_I (am_sA σ o k v) o' k' = am_I σ o' k' := rfl
theorem am_I_sJ (σ : am_St) (o o' k' : Nat) (v : Int64) : am_I (am_sJ σ o v) o' k' = am_I σ o' k' := rfl
theorem am_I_sR (σ : am_St) (o k o' k' : Nat) (v : Nat) : am_I (am_sR σ o k v) o' k' = am_I σ o' k' := rfl
theorem am_A_sI (σ : am_St) (o k o' k' : Nat) (v : Int32) : am_A (am_sI σ o k v) o' k' = am_A σ o' k' := rfl
theorem am_A_sA (σ : am_St) (o k o' k' : Nat) (v : Nat → Int32) : am_A (am_sA σ o k v) o' k' = if k' = k ∧ o' = o then v else am_A σ o' k' := rfl
theorem am_A_sJ (σ : am_St) (o o' k' : Nat) (v : Int64) : am_A (am_sJ σ o v) o' k' = am_A σ o' k' := rfl
theorem am_A_sR (σ : am_St) (o k o' k' : Nat) (v : Nat) : am_A (am_sR σ o k v) o' k' = am_A σ o' k' := rfl
theorem am_J_sI (σ : am_St) (o k o' : Nat) (v : Int32) : am_J (am_sI σ o k v) o' = am_J σ o' := rfl
theorem am_J_sA (σ : am_St) (o k o' : Nat) (v : Nat → Int32) : am_J (am_sA σ o k v) o' = am_J σ o' := rfl
theorem am_J_sJ (σ : am_St) (o o' : Nat) (v : Int64) : am_J (am_sJ σ o v) o' = if o' = o then v else am_J σ o' := rfl
theorem am_J_sR (σ : am_St) (o k o' : Nat) (v : Nat) : am_J (am_sR σ o k v) o' = am_J σ o' := rfl
theorem am_R_sI (σ : am_St) (o k o' k' : Nat) (v : Int32) : am_R (am_sI σ o k v) o' k' = am_R σ o' k' := rfl
theorem am_R_sA (σ : am_St) (o k o' k' : Nat) (v : Nat → Int32) : am_R (am_sA σ o k v) o' k' = am_R σ o' k' := rfl
theorem am_R_sJ (σ : am_St) (o o' k' : Nat) (v : Int64) : am_R (am_sJ σ o v) o' k' = am_R σ o' k' := rfl
theorem am_R_sR (σ : am_St) (o k o' k' : Nat) (v : Nat) : am_R (am_sR σ o k v) o' k' = if k' = k ∧ o' = o then v else am_R σ o' k' := rfl
/-! numbers of cells -/
def am_oid (o : Nat) : Nat := 64 * o
def am_aid (o k : Nat) : Nat := 64 * o + k + 1
def am_fk (ci k : Nat) : Nat × Nat × Nat := (am_ft.getD ci []).getD k (9, 0, 0)
def am_nf (ci : Nat) : Nat := (am_ft.getD ci []).length
/-- a field's value, references by the numbers of cells -/
def am_fa (σ : am_St) (ci o k : Nat) : Value := match (am_fk ci k).1 with
  | 0 => .int (am_I σ o k)
  | 1 => .int (am_I σ o k)
  | 2 => .long (am_J σ o)
  | 3 => .ref (am_aid o k)
  | 4 => .ref (am_oid (am_lk o k))
  | _ => .ref (am_oid (am_R σ o k))
def am_v (ρ : Nat → Nat) : Value → Value
  | .ref i => .ref (ρ i)
  | v => v
theorem am_v_cat (ρ : Nat → Nat) (v : Value) : (am_v ρ v).category = v.category := by cases v <;> rfl
def am_ids (sd : Bool) : List Nat := (List.range 17).flatMap (fun o => if am_k sd o < 12 then am_oid o :: ((List.range (am_nf (am_k sd o))).filter (fun k => (am_fk (am_k sd o) k).1 == 3)).map (am_aid o) else [])
def am_ce (K : Nat → ClassId) (ρ : Nat → Nat) (sd : Bool) (σ : am_St) (i : Nat) : va_E :=
  if i % 64 = 0 then .inr (am_k sd (i / 64), (List.range (am_nf (am_k sd (i / 64)))).map (fun k => am_v ρ (am_fa σ (am_k sd (i / 64)) (i / 64) k)))
  else .inl (K (am_fk (am_k sd (i / 64)) (i % 64 - 1)).2.1, (am_fk (am_k sd (i / 64)) (i % 64 - 1)).2.2, .inl (am_A σ (i / 64) (i % 64 - 1)))
def am_ws (K : Nat → ClassId) (ρ : Nat → Nat) (sd : Bool) (σ : am_St) : va_W := (am_ids sd).map (fun i => (ρ i, am_ce K ρ sd σ i))
def am_tys (K : Nat → ClassId) : List (ClassId × FieldType) := [(K 0, .int), (K 1, .byte), (K 2, .boolean)]
def am_Wd (sd : Bool) (D : va_G) (K : Nat → ClassId) (ρ : Nat → Nat) (A : Nat → Prop) (σ : am_St) (t : State) : Prop := va_P D am_cl (am_ws K ρ sd σ) t.heap ∧ va_K D am_cl (am_tys K) t ∧ va_D A (am_ws K ρ sd σ)
abbrev am_Y : Type := MethodName × ByteArray × Nat × Option FieldType
def am_room (d : Nat) : Room := { frames := d, cells := 0, slots := 0, locals := 40 * d }
def am_Qc (sd : Bool) (D : va_G) (K : Nat → ClassId) (ρ : Nat → Nat) (A : Nat → Prop) (Q : Option Value → am_St → Prop) : Array Value → State → Outcome → State → Prop := fun _ st oc t => (∃ (r : Option Value) (σ : am_St), oc = .returned (r.map (am_v ρ)) ∧ Q r σ ∧ am_Wd sd D K ρ A σ t) ∧ va_F A st t
def am_X (y : am_Y) (p : Program) (s : State) (m : MethodId) (args : Array Value) (meth : Method) (c : Code) : Prop :=
  p.tables.exec = Jvm.exec ∧ c.code = y.2.1 ∧ c.maxLocals = y.2.2.1 ∧ meth.sig.returnType = y.2.2.2 ∧ meth.locks = false ∧ s.vm.findClass y.1.cls = some m.cls ∧ ∀ w ∈ am_tbl, w.before args s = true
/-- the listed locals -/
def am_lv (ρ : Nat → Nat) : Nat → List (Option Value) → List (Nat × Value)
  | _, [] => []
  | i, none :: L => am_lv ρ (i + 1) L
  | i, some v :: L => (i, am_v ρ v) :: am_lv ρ (i + 1) L
theorem am_lv_mem {ρ : Nat → Nat} {q : Nat × Value} : ∀ (L : List (Option Value)) (i : Nat), q ∈ am_lv ρ i L ↔ ∃ (j : Nat) (v : Value), L[j]? = some (some v) ∧ q = (i + j, am_v ρ v)
  | [], i => by simp [am_lv]
  | none :: L, i => by
    rw [am_lv, am_lv_mem L (i + 1)]
    constructor
    · rintro ⟨j, v, h, rfl⟩
      exact ⟨j + 1, v, by simpa using h, by rw [Nat.add_assoc, Nat.add_comm 1 j]⟩
    · rintro ⟨j, v, h, rfl⟩
      cases j with
      | zero => simp at h
      | succ j => exact ⟨j, v, by simpa using h, by rw [Nat.add_assoc, Nat.add_comm 1 j]⟩
  | some w :: L, i => by
    rw [am_lv, List.mem_cons, am_lv_mem L (i + 1)]
    constructor
    · rintro (rfl | ⟨j, v, h, rfl⟩)
      · exact ⟨0, w, by simp, by simp⟩
      · exact ⟨j + 1, v, by simpa using h, by rw [Nat.add_assoc, Nat.add_comm 1 j]⟩
    · rintro ⟨j, v, h, rfl⟩
      cases j with
      | zero => simp at h; subst h; exact Or.inl (by simp)
      | succ j => exact Or.inr ⟨j, v, by simpa using h, by rw [Nat.add_assoc, Nat.add_comm 1 j]⟩
def am_L (ρ : Nat → Nat) (ls : Array Slot) (n : Nat) (L : List (Option Value)) : Prop := lv_has ls n (am_lv ρ 0 L)
theorem am_L.at {ρ : Nat → Nat} {ls : Array Slot} {n : Nat} {L : List (Option Value)} (h : am_L ρ ls n L) {i : Nat} {v : Value} (hi : L[i]? = some (some v)) : ls[i]? = some (.val (am_v ρ v)) :=
  h.2.2 (i, am_v ρ v) ((am_lv_mem L 0).mpr ⟨i, v, hi, by simp⟩)
theorem am_L.less {ρ : Nat → Nat} {ls : Array Slot} {n : Nat} {L L' : List (Option Value)} (h : am_L ρ ls n L) (hL : ∀ (i : Nat) (v : Value), L'[i]? = some (some v) → L[i]? = some (some v)) : am_L ρ ls n L' := by
  refine ⟨h.1, h.2.1, fun q hq => ?_⟩
  obtain ⟨j, v, hj, rfl⟩ := (am_lv_mem L' 0).mp hq
  have := h.at (hL j v hj)
  simpa using this
/-- no long stands before the place i -/
def am_n2 : List (Option Value) → Nat → Bool
  | _, 0 => true
  | L, i + 1 => match L[i]? with
    | some (some (.long _)) => false
    | some (some (.double _)) => false
    | _ => true
theorem am_n2_spec {L : List (Option Value)} {i : Nat} {v : Value} (h : am_n2 L (i + 1) = true) (hv : L[i]? = some (some v)) : v.category ≠ 2 := by
  simp only [am_n2, hv] at h
  cases v <;> simp_all [Value.category]
theorem am_L.set {ρ : Nat → Nat} {ls' : Array Slot} {n i : Nat} {L : List (Option Value)} {v : Value} (h2 : am_n2 L i = true) (h : lv_has ls' n ((i, am_v ρ v) :: (am_lv ρ 0 L).filter (fun q => !(q.1 == i) && !(q.1 + 1 == i && q.2.category == 2)))) : am_L ρ ls' n (L.set i (some v)) := by
  refine ⟨h.1, h.2.1, fun q hq => h.2.2 q ?_⟩
  obtain ⟨j, w, hj, rfl⟩ := (am_lv_mem _ 0).mp hq
  rw [Nat.zero_add]
  rw [List.getElem?_set] at hj
  by_cases e : i = j
  · subst e
    rw [if_pos rfl] at hj
    split at hj
    · simp at hj; subst hj; exact List.mem_cons_self
    · simp at hj
  · rw [if_neg e] at hj
    refine List.mem_cons_of_mem _ (List.mem_filter.mpr ⟨(am_lv_mem L 0).mpr ⟨j, w, hj, by simp⟩, ?_⟩)
    have e1 : (j == i) = false := by simp; exact fun q => e q.symm
    by_cases e2 : j + 1 = i
    · subst e2
      have := am_n2_spec h2 hj
      simp [am_v_cat, this]
    · simp [e2]
      exact fun q => e q.symm
/-- the one text constant that is read, and what its methods read, outside all that is written; 2000 stands for the text, 2001 for its bytes, 2002 for what a static holds -/
def am_tx : List Int32 := [118, 97, 114, 32, 115, 116, 97, 114, 116, 32, 98, 97, 100, 32, 115, 116, 101, 112, 32, 105, 102, 32, 115, 101, 116, 32, 116, 101, 115, 116, 32, 97, 110, 100, 32]
def am_Z (ρ : Nat → Nat) (A : Nat → Prop) (U : State) (H : Heap) : Prop := vk_S 1 [35] [am_tx] (fun _ => ρ 2000) (fun _ => ρ 2001) A U H ∧ vk_R "InvariantLearnerModel" 150 "var start bad step if set test and " (ρ 2000) U ∧ va_Z "java/lang/String" "COMPACT_STRINGS" "Z" (.int 1) A U H ∧ (va_Z "jdk/internal/util/Preconditions" "SIOOBE_FORMATTER" "Ljava/util/function/BiFunction;" .null A U H ∨ va_Z "jdk/internal/util/Preconditions" "SIOOBE_FORMATTER" "Ljava/util/function/BiFunction;" (.ref (ρ 2002)) A U H)
theorem am_Z.same {ρ : Nat → Nat} {A : Nat → Prop} {u U : State} {H : Heap} (hv : U.vm = u.vm) (h : am_Z ρ A u H) : am_Z ρ A U H := by
  have ha : u.vm.Alike U.vm := by rw [hv]; exact Vm.Alike.refl u.vm
  exact ⟨h.1.moved ha, h.2.1.same hv, h.2.2.1.moved ha, h.2.2.2.elim (fun z => Or.inl (z.moved ha)) (fun z => Or.inr (z.moved ha))⟩
theorem am_Z.warm {ρ : Nat → Nat} {A B : Nat → Prop} {s U : State} {H : Heap} (hW : s.WarmedH U.vm) (h : am_Z ρ A s s.heap) (hq : ∀ a : Nat, a < s.heap.size → ¬ A a → H[a]? = s.heap[a]?) (hB : ∀ q, B q → A q) : am_Z ρ B U H :=
  ⟨((h.1.kept hq).moved hW.alike).narrow hB, h.2.1.warm hW, ((h.2.2.1.kept hq).moved hW.alike).narrow hB, h.2.2.2.elim (fun z => Or.inl (((z.kept hq).moved hW.alike).narrow hB)) (fun z => Or.inr (((z.kept hq).moved hW.alike).narrow hB))⟩
def am_HA (ρ : Nat → Nat) (s : State) (A : Nat → Prop) : Prop := (∀ q, s.heap.size ≤ q → A q) ∧ am_Z ρ A s s.heap
/-- THE JUDGEMENT: at pc, with locals L, stack stk, state σ, the method comes to its end, with Q of its answer and the state behind it -/
def am_T (sd : Bool) (y : am_Y) (d : Nat) (Q : Option Value → am_St → Prop) (pc : Nat) (L : List (Option Value)) (stk : List Value) (σ : am_St) : Prop :=
  ∀ (p : Program) (l : Launch) (e : Env) (s : State) (m : MethodId) (args : Array Value) (below : List Frame) (meth : Method) (c : Code) (D : va_G) (K : Nat → ClassId) (ρ : Nat → Nat) (A : Nat → Prop) (H : Heap) (locs : List Loc) (ls : Array Slot),
    am_X y p s m args meth c → va_K D am_cl (am_tys K) s → am_HA ρ s A → am_L ρ ls y.2.2.1 L → va_P D am_cl (am_ws K ρ sd σ) H → va_D A (am_ws K ρ sd σ) → va_S A s.heap H locs →
    W p l e (am_room d) s m args below meth c H locs 0 0 (MQ below (am_Qc sd D K ρ A Q) args s 0 0 A) (F0 m pc ls (stk.map (am_v ρ)))
/-- A CONTRACT: called with the arguments as in the state σ, the method returns, with Q of its answer and the state behind it -/
def am_C (sd : Bool) (y : am_Y) (d : Nat) (as : List Value) (σ : am_St) (Q : Option Value → am_St → Prop) : Prop :=
  ∀ (l : Launch) (D : va_G) (K : Nat → ClassId) (ρ : Nat → Nat) (sz : Nat), Met l y.1 (.code y.1 y.2.1 y.2.2.1 y.2.2.2 :: am_tbl) (am_room d) (va_Pc (as.map (am_v ρ)) (fun U => U.heap.size = sz ∧ am_Z ρ (va_A (am_ws K ρ sd σ) sz) U U.heap ∧ am_Wd sd D K ρ (fun _ => True) σ U)) (am_Qc sd D K ρ (va_A (am_ws K ρ sd σ) sz) Q) 0 0 (va_A (am_ws K ρ sd σ) sz)
theorem am_T.less {sd : Bool} {y : am_Y} {d : Nat} {Q : Option Value → am_St → Prop} {pc : Nat} {L L' : List (Option Value)} {stk : List Value} {σ : am_St} (h : am_T sd y d Q pc L' stk σ) (hL : ∀ (i : Nat) (v : Value), L'[i]? = some (some v) → L[i]? = some (some v)) : am_T sd y d Q pc L stk σ :=
  fun p l e s m args below meth c D K ρ A H locs ls hX hK hA hl => h p l e s m args below meth c D K ρ A H locs ls hX hK hA (hl.less hL)
/-- the locals with which a method begins, no long among them -/
def am_L0 (as : List Value) (n : Nat) : List (Option Value) := as.map some ++ List.replicate (n - as.length) none
theorem am_args (ρ : Nat → Nat) : ∀ (as : List Value) (i : Nat), (∀ v ∈ as, v.category = 1) → lv_args i (as.map (am_v ρ)) = am_lv ρ i (as.map some)
  | [], i, _ => rfl
  | v :: as, i, h => by
    have hc : (am_v ρ v).category = 1 := by rw [am_v_cat]; exact h v List.mem_cons_self
    simp only [List.map_cons, lv_args, am_lv, hc]
    rw [if_neg (by decide), am_args ρ as (i + 1) (fun w hw => h w (List.mem_cons_of_mem _ hw))]
theorem am_sl (ρ : Nat → Nat) : ∀ (as : List Value), (∀ v ∈ as, v.category = 1) → (lg_sl (as.map (am_v ρ))).length = as.length
  | [], _ => rfl
  | v :: as, h => by
    have hc : (am_v ρ v).category = 1 := by rw [am_v_cat]; exact h v List.mem_cons_self
    have ih := am_sl ρ as (fun w hw => h w (List.mem_cons_of_mem _ hw))
    simp only [List.map_cons, List.length_cons]
    simp only [lg_sl, List.flatMap_cons, List.length_append] at ih ⊢
    rw [ih]
    simp [hc]
    omega
