/-! what is known of a class by its number -/
def am_cf (ci : Nat) (C : String) (F : u_T) (N : Nat) (ty : Nat → FieldType) : Prop :=
  am_cl[ci]? = some (C, F, N) ∧ N = am_nf ci ∧ (∀ w ∈ u_ws C F N, w ∈ am_tbl) ∧ (∀ k, k < N → parseFieldDescriptor (F k).2.2.1 = some (ty k)) ∧ (∀ a, a < N → ∀ b, b < N → a ≠ b → (F a).2.1 ≠ (F b).2.1) ∧
  ∀ k, k < N → ((am_fk ci k).1 = 0 → ty k = .int ∧ (F k).2.2.2 = false) ∧ ((am_fk ci k).1 = 1 → ty k = .boolean ∧ (F k).2.2.2 = false) ∧ ((am_fk ci k).1 = 2 → ty k = .long ∧ (F k).2.2.2 = false) ∧ ((am_fk ci k).1 = 5 → ty k = .object "InvariantLearner$Tree" ∧ (F k).2.2.2 = false)
theorem am_cf_all (ci : Nat) (h : ci < 12) : ∃ (C : String) (F : u_T) (N : Nat) (ty : Nat → FieldType), am_cf ci C F N ty := by
  match ci, h with
  | 0, _ => exact ⟨na_R0, na_F0, 13, na_t0, rfl, rfl, na_w0, na_o0, na_n0, by decide +kernel⟩
  | 1, _ => exact ⟨na_R1, na_F1, 15, na_t1, rfl, rfl, na_w1, na_o1, na_n1, by decide +kernel⟩
  | 2, _ => exact ⟨na_R2, na_F2, 16, na_t2, rfl, rfl, na_w2, na_o2, na_n2, by decide +kernel⟩
  | 3, _ => exact ⟨na_R3, na_F3, 6, na_t3, rfl, rfl, na_w3, na_o3, na_n3, by decide +kernel⟩
  | 4, _ => exact ⟨na_R4, na_F4, 12, na_t4, rfl, rfl, na_w4, na_o4, na_n4, by decide +kernel⟩
  | 5, _ => exact ⟨na_R5, na_F5, 13, na_t5, rfl, rfl, na_w5, na_o5, na_n5, by decide +kernel⟩
  | 6, _ => exact ⟨na_R6, na_F6, 8, na_t6, rfl, rfl, na_w6, na_o6, na_n6, by decide +kernel⟩
  | 7, _ => exact ⟨na_R7, na_F7, 5, na_t7, rfl, rfl, na_w7, na_o7, na_n7, by decide +kernel⟩
  | 8, _ => exact ⟨na_R8, na_F8, 8, na_t8, rfl, rfl, na_w8, na_o8, na_n8, by decide +kernel⟩
  | 9, _ => exact ⟨na_R9, na_F9, 16, na_t9, rfl, rfl, na_w9, na_o9, na_n9, by decide +kernel⟩
  | 10, _ => exact ⟨na_R10, na_F10, 14, na_t10, rfl, rfl, na_w10, na_o10, na_n10, by decide +kernel⟩
  | 11, _ => exact ⟨na_R11, na_F11, 50, na_t11, rfl, rfl, na_w11, na_o11, na_n11, by decide +kernel⟩
def am_fl (own : String) (idx ci k : Nat) : Prop := ∃ (C : String) (F : u_T) (N : Nat), am_cl[ci]? = some (C, F, N) ∧ Cond.fieldLink own idx (F k).1 (F k).2.1 (F k).2.2.1 ∈ am_tbl
section AMS
variable {sd : Bool} {y : am_Y} {d : Nat} {Q : Option Value → am_St → Prop} {pc : Nat} {L : List (Option Value)} {stk : List Value} {σ : am_St}
/-! plain instructions -/
theorem am_iconst {n : Int} {v : Int32} (hd : decode y.2.1 pc = .ok (.iconst n, 1)) (hv : Int32.ofInt n = v) (k : am_T sd y d Q (pc + 1) L (.int v :: stk) σ) : am_T sd y d Q pc L stk σ :=
  fun p l e s m args below meth c D K ρ A H locs ls hX hK hA hl hP hD hS => lv_iconst hX.1 hX.2.1 hd hv (k p l e s m args below meth c D K ρ A H locs ls hX hK hA hl hP hD hS)
theorem am_bipush {n : Int} {v : Int32} (hd : decode y.2.1 pc = .ok (.bipush n, 2)) (hv : (Int8.ofInt n).toInt32 = v) (k : am_T sd y d Q (pc + 2) L (.int v :: stk) σ) : am_T sd y d Q pc L stk σ :=
  fun p l e s m args below meth c D K ρ A H locs ls hX hK hA hl hP hD hS => lv_bipush hX.1 hX.2.1 hd hv (k p l e s m args below meth c D K ρ A H locs ls hX hK hA hl hP hD hS)
theorem am_sipush {n : Int} {v : Int32} (hd : decode y.2.1 pc = .ok (.sipush n, 3)) (hv : (Int16.ofInt n).toInt32 = v) (k : am_T sd y d Q (pc + 3) L (.int v :: stk) σ) : am_T sd y d Q pc L stk σ :=
  fun p l e s m args below meth c D K ρ A H locs ls hX hK hA hl hP hD hS => lv_sipush hX.1 hX.2.1 hd hv (k p l e s m args below meth c D K ρ A H locs ls hX hK hA hl hP hD hS)
theorem am_lconst {n : Fin 2} {v : Int64} (hd : decode y.2.1 pc = .ok (.lconst n, 1)) (hv : Int64.ofNat (n : Nat) = v) (k : am_T sd y d Q (pc + 1) L (.long v :: stk) σ) : am_T sd y d Q pc L stk σ :=
  fun p l e s m args below meth c D K ρ A H locs ls hX hK hA hl hP hD hS => lv_lconst hX.1 hX.2.1 hd hv (k p l e s m args below meth c D K ρ A H locs ls hX hK hA hl hP hD hS)
theorem am_ldc2 {idx : Nat} {v : Int64} (hd : decode y.2.1 pc = .ok (.ldc2_w idx, 3)) (hw : Cond.constantLong y.1.cls idx v ∈ am_tbl) (k : am_T sd y d Q (pc + 3) L (.long v :: stk) σ) : am_T sd y d Q pc L stk σ :=
  fun p l e s m args below meth c D K ρ A H locs ls hX hK hA hl hP hD hS => lv_ldc2 hX.1 hX.2.1 hX.2.2.2.2.2.1 (hX.2.2.2.2.2.2 _ hw) hd (k p l e s m args below meth c D K ρ A H locs ls hX hK hA hl hP hD hS)
theorem am_iload_n {n : Fin 4} {i : Nat} {x : Int32} (hd : decode y.2.1 pc = .ok (.iload_n n, 1)) (hi : (n : Nat) = i) (hL : L[i]? = some (some (.int x))) (k : am_T sd y d Q (pc + 1) L (.int x :: stk) σ) : am_T sd y d Q pc L stk σ :=
  fun p l e s m args below meth c D K ρ A H locs ls hX hK hA hl hP hD hS => lv_iload_n hX.1 hX.2.1 hd hi (hl.at hL) (k p l e s m args below meth c D K ρ A H locs ls hX hK hA hl hP hD hS)
theorem am_iload {i : Nat} {x : Int32} (hd : decode y.2.1 pc = .ok (.iload i, 2)) (hL : L[i]? = some (some (.int x))) (k : am_T sd y d Q (pc + 2) L (.int x :: stk) σ) : am_T sd y d Q pc L stk σ :=
  fun p l e s m args below meth c D K ρ A H locs ls hX hK hA hl hP hD hS => lv_iload hX.1 hX.2.1 hd (hl.at hL) (k p l e s m args below meth c D K ρ A H locs ls hX hK hA hl hP hD hS)
theorem am_lload_n {n : Fin 4} {i : Nat} {x : Int64} (hd : decode y.2.1 pc = .ok (.lload_n n, 1)) (hi : (n : Nat) = i) (hL : L[i]? = some (some (.long x))) (k : am_T sd y d Q (pc + 1) L (.long x :: stk) σ) : am_T sd y d Q pc L stk σ :=
  fun p l e s m args below meth c D K ρ A H locs ls hX hK hA hl hP hD hS => lv_lload_n hX.1 hX.2.1 hd hi (hl.at hL) (k p l e s m args below meth c D K ρ A H locs ls hX hK hA hl hP hD hS)
theorem am_lload {i : Nat} {x : Int64} (hd : decode y.2.1 pc = .ok (.lload i, 2)) (hL : L[i]? = some (some (.long x))) (k : am_T sd y d Q (pc + 2) L (.long x :: stk) σ) : am_T sd y d Q pc L stk σ :=
  fun p l e s m args below meth c D K ρ A H locs ls hX hK hA hl hP hD hS => lv_lload hX.1 hX.2.1 hd (hl.at hL) (k p l e s m args below meth c D K ρ A H locs ls hX hK hA hl hP hD hS)
theorem am_aload_n {n : Fin 4} {i : Nat} {x : Nat} (hd : decode y.2.1 pc = .ok (.aload_n n, 1)) (hi : (n : Nat) = i) (hL : L[i]? = some (some (.ref x))) (k : am_T sd y d Q (pc + 1) L (.ref x :: stk) σ) : am_T sd y d Q pc L stk σ :=
  fun p l e s m args below meth c D K ρ A H locs ls hX hK hA hl hP hD hS => lv_aload_n hX.1 hX.2.1 hd hi (hl.at hL) (k p l e s m args below meth c D K ρ A H locs ls hX hK hA hl hP hD hS)
theorem am_aload {i : Nat} {x : Nat} (hd : decode y.2.1 pc = .ok (.aload i, 2)) (hL : L[i]? = some (some (.ref x))) (k : am_T sd y d Q (pc + 2) L (.ref x :: stk) σ) : am_T sd y d Q pc L stk σ :=
  fun p l e s m args below meth c D K ρ A H locs ls hX hK hA hl hP hD hS => lv_aload hX.1 hX.2.1 hd (hl.at hL) (k p l e s m args below meth c D K ρ A H locs ls hX hK hA hl hP hD hS)
theorem am_istore_n {n : Fin 4} {i : Nat} {x : Int32} (hd : decode y.2.1 pc = .ok (.istore_n n, 1)) (hi : (n : Nat) = i) (hn : i < y.2.2.1) (h2 : am_n2 L i = true) (k : am_T sd y d Q (pc + 1) (L.set i (some (.int x))) stk σ) : am_T sd y d Q pc L (.int x :: stk) σ :=
  fun p l e s m args below meth c D K ρ A H locs ls hX hK hA hl hP hD hS => lv_istore_n hX.1 hX.2.1 hd hi hl hn rfl (fun ls' h' => k p l e s m args below meth c D K ρ A H locs ls' hX hK hA (am_L.set h2 h') hP hD hS)
theorem am_istore {i : Nat} {x : Int32} (hd : decode y.2.1 pc = .ok (.istore i, 2)) (hn : i < y.2.2.1) (h2 : am_n2 L i = true) (k : am_T sd y d Q (pc + 2) (L.set i (some (.int x))) stk σ) : am_T sd y d Q pc L (.int x :: stk) σ :=
  fun p l e s m args below meth c D K ρ A H locs ls hX hK hA hl hP hD hS => lv_istore hX.1 hX.2.1 hd hl hn rfl (fun ls' h' => k p l e s m args below meth c D K ρ A H locs ls' hX hK hA (am_L.set h2 h') hP hD hS)
theorem am_astore_n {n : Fin 4} {i : Nat} {x : Nat} (hd : decode y.2.1 pc = .ok (.astore_n n, 1)) (hi : (n : Nat) = i) (hn : i < y.2.2.1) (h2 : am_n2 L i = true) (k : am_T sd y d Q (pc + 1) (L.set i (some (.ref x))) stk σ) : am_T sd y d Q pc L (.ref x :: stk) σ :=
  fun p l e s m args below meth c D K ρ A H locs ls hX hK hA hl hP hD hS => lv_astore_n (x := ρ x) hX.1 hX.2.1 hd hi hl hn rfl (fun ls' h' => k p l e s m args below meth c D K ρ A H locs ls' hX hK hA (am_L.set (v := .ref x) h2 h') hP hD hS)
theorem am_astore {i : Nat} {x : Nat} (hd : decode y.2.1 pc = .ok (.astore i, 2)) (hn : i < y.2.2.1) (h2 : am_n2 L i = true) (k : am_T sd y d Q (pc + 2) (L.set i (some (.ref x))) stk σ) : am_T sd y d Q pc L (.ref x :: stk) σ :=
  fun p l e s m args below meth c D K ρ A H locs ls hX hK hA hl hP hD hS => lv_astore (x := ρ x) hX.1 hX.2.1 hd hl hn rfl (fun ls' h' => k p l e s m args below meth c D K ρ A H locs ls' hX hK hA (am_L.set (v := .ref x) h2 h') hP hD hS)
theorem am_iinc {i : Nat} {n : Int} {x : Int32} {v : Int32} (hd : decode y.2.1 pc = .ok (.iinc i n, 3)) (hL : L[i]? = some (some (.int x))) (hv : x + Int32.ofInt n = v) (hn : i < y.2.2.1) (h2 : am_n2 L i = true) (k : am_T sd y d Q (pc + 3) (L.set i (some (.int v))) stk σ) : am_T sd y d Q pc L stk σ :=
  fun p l e s m args below meth c D K ρ A H locs ls hX hK hA hl hP hD hS => by
    obtain ⟨k0, hk0⟩ := List.getElem?_of_mem ((am_lv_mem (ρ := ρ) (q := (i, .int x)) L 0).mpr ⟨i, .int x, hL, by simp [am_v]⟩)
    exact lv_iinc (k := k0) hX.1 hX.2.1 hd hl hk0 hv hn rfl (fun ls' h' => k p l e s m args below meth c D K ρ A H locs ls' hX hK hA (am_L.set h2 h') hP hD hS)
theorem am_lstore {i : Nat} {x : Int64} (hd : decode y.2.1 pc = .ok (.lstore i, 2)) (hn : i + 1 < y.2.2.1) (h2 : am_n2 L i = true) (k : am_T sd y d Q (pc + 2) ((L.set i (some (.long x))).set (i + 1) none) stk σ) : am_T sd y d Q pc L (.long x :: stk) σ := by
  intro p l e s m args below meth c D K ρ A H locs ls hX hK hA hl hP hD hS
  refine lv_lstore hX.1 hX.2.1 hd hl hn rfl (fun ls' h' => k p l e s m args below meth c D K ρ A H locs ls' hX hK hA ?_ hP hD hS)
  refine ⟨h'.1, h'.2.1, fun q hq => h'.2.2 q ?_⟩
  obtain ⟨j, w, hj, rfl⟩ := (am_lv_mem _ 0).mp hq
  rw [Nat.zero_add]
  rw [List.getElem?_set] at hj
  by_cases e1 : i + 1 = j
  · rw [if_pos e1] at hj
    split at hj <;> simp at hj
  · rw [if_neg e1, List.getElem?_set] at hj
    by_cases e2 : i = j
    · subst e2
      rw [if_pos rfl] at hj
      split at hj
      · simp at hj; subst hj; exact List.mem_cons_self
      · simp at hj
    · rw [if_neg e2] at hj
      refine List.mem_cons_of_mem _ (List.mem_filter.mpr ⟨(am_lv_mem L 0).mpr ⟨j, w, hj, by simp⟩, ?_⟩)
      by_cases e3 : j + 1 = i
      · subst e3
        have := am_n2_spec h2 hj
        simp [am_v_cat, this]
        omega
      · simp [e3]
        omega
theorem am_iadd {a b : Int32} (hd : decode y.2.1 pc = .ok (.iadd, 1)) (k : am_T sd y d Q (pc + 1) L (.int (a + b) :: stk) σ) : am_T sd y d Q pc L (.int b :: .int a :: stk) σ :=
  fun p l e s m args below meth c D K ρ A H locs ls hX hK hA hl hP hD hS => lv_iadd hX.1 hX.2.1 hd (k p l e s m args below meth c D K ρ A H locs ls hX hK hA hl hP hD hS)
theorem am_isub {a b : Int32} (hd : decode y.2.1 pc = .ok (.isub, 1)) (k : am_T sd y d Q (pc + 1) L (.int (a - b) :: stk) σ) : am_T sd y d Q pc L (.int b :: .int a :: stk) σ :=
  fun p l e s m args below meth c D K ρ A H locs ls hX hK hA hl hP hD hS => lv_isub hX.1 hX.2.1 hd (k p l e s m args below meth c D K ρ A H locs ls hX hK hA hl hP hD hS)
theorem am_imul {a b : Int32} (hd : decode y.2.1 pc = .ok (.imul, 1)) (k : am_T sd y d Q (pc + 1) L (.int (a * b) :: stk) σ) : am_T sd y d Q pc L (.int b :: .int a :: stk) σ :=
  fun p l e s m args below meth c D K ρ A H locs ls hX hK hA hl hP hD hS => lv_imul hX.1 hX.2.1 hd (k p l e s m args below meth c D K ρ A H locs ls hX hK hA hl hP hD hS)
theorem am_iand {a b : Int32} (hd : decode y.2.1 pc = .ok (.iand, 1)) (k : am_T sd y d Q (pc + 1) L (.int (a &&& b) :: stk) σ) : am_T sd y d Q pc L (.int b :: .int a :: stk) σ :=
  fun p l e s m args below meth c D K ρ A H locs ls hX hK hA hl hP hD hS => lv_iand hX.1 hX.2.1 hd (k p l e s m args below meth c D K ρ A H locs ls hX hK hA hl hP hD hS)
theorem am_ior {a b : Int32} (hd : decode y.2.1 pc = .ok (.ior, 1)) (k : am_T sd y d Q (pc + 1) L (.int (a ||| b) :: stk) σ) : am_T sd y d Q pc L (.int b :: .int a :: stk) σ :=
  fun p l e s m args below meth c D K ρ A H locs ls hX hK hA hl hP hD hS => lv_ior hX.1 hX.2.1 hd (k p l e s m args below meth c D K ρ A H locs ls hX hK hA hl hP hD hS)
theorem am_ixor {a b : Int32} (hd : decode y.2.1 pc = .ok (.ixor, 1)) (k : am_T sd y d Q (pc + 1) L (.int (a ^^^ b) :: stk) σ) : am_T sd y d Q pc L (.int b :: .int a :: stk) σ :=
  fun p l e s m args below meth c D K ρ A H locs ls hX hK hA hl hP hD hS => lv_ixor hX.1 hX.2.1 hd (k p l e s m args below meth c D K ρ A H locs ls hX hK hA hl hP hD hS)
theorem am_ishl {a b : Int32} (hd : decode y.2.1 pc = .ok (.ishl, 1)) (k : am_T sd y d Q (pc + 1) L (.int (a <<< (b &&& 31)) :: stk) σ) : am_T sd y d Q pc L (.int b :: .int a :: stk) σ :=
  fun p l e s m args below meth c D K ρ A H locs ls hX hK hA hl hP hD hS => lv_ishl hX.1 hX.2.1 hd (k p l e s m args below meth c D K ρ A H locs ls hX hK hA hl hP hD hS)
theorem am_ishr {a b : Int32} (hd : decode y.2.1 pc = .ok (.ishr, 1)) (k : am_T sd y d Q (pc + 1) L (.int (a >>> (b &&& 31)) :: stk) σ) : am_T sd y d Q pc L (.int b :: .int a :: stk) σ :=
  fun p l e s m args below meth c D K ρ A H locs ls hX hK hA hl hP hD hS => lv_ishr hX.1 hX.2.1 hd (k p l e s m args below meth c D K ρ A H locs ls hX hK hA hl hP hD hS)
theorem am_idiv {a b : Int32} (hd : decode y.2.1 pc = .ok (.idiv, 1)) (h0 : ¬ b = 0) (k : am_T sd y d Q (pc + 1) L (.int (a / b) :: stk) σ) : am_T sd y d Q pc L (.int b :: .int a :: stk) σ :=
  fun p l e s m args below meth c D K ρ A H locs ls hX hK hA hl hP hD hS => lv_idiv hX.1 hX.2.1 hd h0 (k p l e s m args below meth c D K ρ A H locs ls hX hK hA hl hP hD hS)
theorem am_irem {a b : Int32} (hd : decode y.2.1 pc = .ok (.irem, 1)) (h0 : ¬ b = 0) (k : am_T sd y d Q (pc + 1) L (.int (a - a / b * b) :: stk) σ) : am_T sd y d Q pc L (.int b :: .int a :: stk) σ :=
  fun p l e s m args below meth c D K ρ A H locs ls hX hK hA hl hP hD hS => lv_irem hX.1 hX.2.1 hd h0 (k p l e s m args below meth c D K ρ A H locs ls hX hK hA hl hP hD hS)
theorem am_ineg {a : Int32} (hd : decode y.2.1 pc = .ok (.ineg, 1)) (k : am_T sd y d Q (pc + 1) L (.int (-a) :: stk) σ) : am_T sd y d Q pc L (.int a :: stk) σ :=
  fun p l e s m args below meth c D K ρ A H locs ls hX hK hA hl hP hD hS => lv_ineg hX.1 hX.2.1 hd (k p l e s m args below meth c D K ρ A H locs ls hX hK hA hl hP hD hS)
theorem am_i2l {a : Int32} (hd : decode y.2.1 pc = .ok (.i2l, 1)) (k : am_T sd y d Q (pc + 1) L (.long a.toInt64 :: stk) σ) : am_T sd y d Q pc L (.int a :: stk) σ :=
  fun p l e s m args below meth c D K ρ A H locs ls hX hK hA hl hP hD hS => lv_i2l hX.1 hX.2.1 hd rfl (k p l e s m args below meth c D K ρ A H locs ls hX hK hA hl hP hD hS)
theorem am_l2i {a : Int64} (hd : decode y.2.1 pc = .ok (.l2i, 1)) (k : am_T sd y d Q (pc + 1) L (.int a.toInt32 :: stk) σ) : am_T sd y d Q pc L (.long a :: stk) σ :=
  fun p l e s m args below meth c D K ρ A H locs ls hX hK hA hl hP hD hS => lv_l2i hX.1 hX.2.1 hd rfl (k p l e s m args below meth c D K ρ A H locs ls hX hK hA hl hP hD hS)
theorem am_i2b {a : Int32} (hd : decode y.2.1 pc = .ok (.i2b, 1)) (k : am_T sd y d Q (pc + 1) L (.int a.toInt8.toInt32 :: stk) σ) : am_T sd y d Q pc L (.int a :: stk) σ :=
  fun p l e s m args below meth c D K ρ A H locs ls hX hK hA hl hP hD hS => lv_i2b hX.1 hX.2.1 hd rfl (k p l e s m args below meth c D K ρ A H locs ls hX hK hA hl hP hD hS)
theorem am_ladd {a b : Int64} (hd : decode y.2.1 pc = .ok (.ladd, 1)) (k : am_T sd y d Q (pc + 1) L (.long (a + b) :: stk) σ) : am_T sd y d Q pc L (.long b :: .long a :: stk) σ :=
  fun p l e s m args below meth c D K ρ A H locs ls hX hK hA hl hP hD hS => lv_ladd hX.1 hX.2.1 hd (k p l e s m args below meth c D K ρ A H locs ls hX hK hA hl hP hD hS)
theorem am_lsub {a b : Int64} (hd : decode y.2.1 pc = .ok (.lsub, 1)) (k : am_T sd y d Q (pc + 1) L (.long (a - b) :: stk) σ) : am_T sd y d Q pc L (.long b :: .long a :: stk) σ :=
  fun p l e s m args below meth c D K ρ A H locs ls hX hK hA hl hP hD hS => lv_lsub hX.1 hX.2.1 hd (k p l e s m args below meth c D K ρ A H locs ls hX hK hA hl hP hD hS)
theorem am_lmul {a b : Int64} (hd : decode y.2.1 pc = .ok (.lmul, 1)) (k : am_T sd y d Q (pc + 1) L (.long (a * b) :: stk) σ) : am_T sd y d Q pc L (.long b :: .long a :: stk) σ :=
  fun p l e s m args below meth c D K ρ A H locs ls hX hK hA hl hP hD hS => lv_lmul hX.1 hX.2.1 hd (k p l e s m args below meth c D K ρ A H locs ls hX hK hA hl hP hD hS)
theorem am_land {a b : Int64} (hd : decode y.2.1 pc = .ok (.land, 1)) (k : am_T sd y d Q (pc + 1) L (.long (a &&& b) :: stk) σ) : am_T sd y d Q pc L (.long b :: .long a :: stk) σ :=
  fun p l e s m args below meth c D K ρ A H locs ls hX hK hA hl hP hD hS => lv_land hX.1 hX.2.1 hd (k p l e s m args below meth c D K ρ A H locs ls hX hK hA hl hP hD hS)
theorem am_ldiv {a b : Int64} (hd : decode y.2.1 pc = .ok (.ldiv, 1)) (h0 : ¬ b = 0) (k : am_T sd y d Q (pc + 1) L (.long (a / b) :: stk) σ) : am_T sd y d Q pc L (.long b :: .long a :: stk) σ :=
  fun p l e s m args below meth c D K ρ A H locs ls hX hK hA hl hP hD hS => lv_ldiv hX.1 hX.2.1 hd h0 (k p l e s m args below meth c D K ρ A H locs ls hX hK hA hl hP hD hS)
theorem am_lrem {a b : Int64} (hd : decode y.2.1 pc = .ok (.lrem, 1)) (h0 : ¬ b = 0) (k : am_T sd y d Q (pc + 1) L (.long (a - a / b * b) :: stk) σ) : am_T sd y d Q pc L (.long b :: .long a :: stk) σ :=
  fun p l e s m args below meth c D K ρ A H locs ls hX hK hA hl hP hD hS => lv_lrem hX.1 hX.2.1 hd h0 (k p l e s m args below meth c D K ρ A H locs ls hX hK hA hl hP hD hS)
theorem am_lshr {a : Int64} {b : Int32} (hd : decode y.2.1 pc = .ok (.lshr, 1)) (k : am_T sd y d Q (pc + 1) L (.long (a >>> (b.toInt64 &&& 63)) :: stk) σ) : am_T sd y d Q pc L (.int b :: .long a :: stk) σ :=
  fun p l e s m args below meth c D K ρ A H locs ls hX hK hA hl hP hD hS => lv_lshr hX.1 hX.2.1 hd rfl (k p l e s m args below meth c D K ρ A H locs ls hX hK hA hl hP hD hS)
theorem am_lcmp {a b : Int64} (hd : decode y.2.1 pc = .ok (.lcmp, 1)) (k : am_T sd y d Q (pc + 1) L (.int (lg_cmp a b) :: stk) σ) : am_T sd y d Q pc L (.long b :: .long a :: stk) σ :=
  fun p l e s m args below meth c D K ρ A H locs ls hX hK hA hl hP hD hS => W.lcmp hX.1 hX.2.1 hd (k p l e s m args below meth c D K ρ A H locs ls hX hK hA hl hP hD hS)
theorem am_dup {v : Value} (hd : decode y.2.1 pc = .ok (.dup, 1)) (hv : v.category = 1) (k : am_T sd y d Q (pc + 1) L (v :: v :: stk) σ) : am_T sd y d Q pc L (v :: stk) σ :=
  fun p l e s m args below meth c D K ρ A H locs ls hX hK hA hl hP hD hS => lv_dup hX.1 hX.2.1 hd (by rw [am_v_cat]; exact hv) (k p l e s m args below meth c D K ρ A H locs ls hX hK hA hl hP hD hS)
theorem am_pop {v : Value} (hd : decode y.2.1 pc = .ok (.pop, 1)) (hv : v.category = 1) (k : am_T sd y d Q (pc + 1) L stk σ) : am_T sd y d Q pc L (v :: stk) σ :=
  fun p l e s m args below meth c D K ρ A H locs ls hX hK hA hl hP hD hS => lv_pop hX.1 hX.2.1 hd (by rw [am_v_cat]; exact hv) (k p l e s m args below meth c D K ρ A H locs ls hX hK hA hl hP hD hS)
theorem am_goto {off : Int} {tgt : Nat} (hd : decode y.2.1 pc = .ok (.goto off, 3)) (ht : (pc : Int) + off = (tgt : Int)) (k : am_T sd y d Q tgt L stk σ) : am_T sd y d Q pc L stk σ :=
  fun p l e s m args below meth c D K ρ A H locs ls hX hK hA hl hP hD hS => lv_goto hX.1 hX.2.1 hd ht (k p l e s m args below meth c D K ρ A H locs ls hX hK hA hl hP hD hS)
theorem am_dup2 {v w : Value} (hd : decode y.2.1 pc = .ok (.dup2, 1)) (hv : v.category = 1) (hw : w.category = 1) (k : am_T sd y d Q (pc + 1) L (v :: w :: v :: w :: stk) σ) : am_T sd y d Q pc L (v :: w :: stk) σ :=
  fun p l e s m args below meth c D K ρ A H locs ls hX hK hA hl hP hD hS => lv_dup2_11 hX.1 hX.2.1 hd (by rw [am_v_cat]; exact hv) (by rw [am_v_cat]; exact hw) (k p l e s m args below meth c D K ρ A H locs ls hX hK hA hl hP hD hS)
theorem am_if_eq {a : Int32} {off : Int} {tgt : Nat} (hd : decode y.2.1 pc = .ok (.ifCond .eq off, 3)) (ht : (pc : Int) + off = (tgt : Int)) (kt : a = 0 → am_T sd y d Q tgt L stk σ) (kf : ¬ a = 0 → am_T sd y d Q (pc + 3) L stk σ) : am_T sd y d Q pc L (.int a :: stk) σ :=
  fun p l e s m args below meth c D K ρ A H locs ls hX hK hA hl hP hD hS => lv_if_eq hX.1 hX.2.1 hd ht (fun h => kt h p l e s m args below meth c D K ρ A H locs ls hX hK hA hl hP hD hS) (fun h => kf h p l e s m args below meth c D K ρ A H locs ls hX hK hA hl hP hD hS)
theorem am_icmp_eq {a b : Int32} {off : Int} {tgt : Nat} (hd : decode y.2.1 pc = .ok (.if_icmp .eq off, 3)) (ht : (pc : Int) + off = (tgt : Int)) (kt : a = b → am_T sd y d Q tgt L stk σ) (kf : ¬ a = b → am_T sd y d Q (pc + 3) L stk σ) : am_T sd y d Q pc L (.int b :: .int a :: stk) σ :=
  fun p l e s m args below meth c D K ρ A H locs ls hX hK hA hl hP hD hS => lv_icmp_eq hX.1 hX.2.1 hd ht (fun h => kt h p l e s m args below meth c D K ρ A H locs ls hX hK hA hl hP hD hS) (fun h => kf h p l e s m args below meth c D K ρ A H locs ls hX hK hA hl hP hD hS)
theorem am_if_ne {a : Int32} {off : Int} {tgt : Nat} (hd : decode y.2.1 pc = .ok (.ifCond .ne off, 3)) (ht : (pc : Int) + off = (tgt : Int)) (kt : ¬ a = 0 → am_T sd y d Q tgt L stk σ) (kf : a = 0 → am_T sd y d Q (pc + 3) L stk σ) : am_T sd y d Q pc L (.int a :: stk) σ :=
  fun p l e s m args below meth c D K ρ A H locs ls hX hK hA hl hP hD hS => lv_if_ne hX.1 hX.2.1 hd ht (fun h => kt h p l e s m args below meth c D K ρ A H locs ls hX hK hA hl hP hD hS) (fun h => kf h p l e s m args below meth c D K ρ A H locs ls hX hK hA hl hP hD hS)
theorem am_icmp_ne {a b : Int32} {off : Int} {tgt : Nat} (hd : decode y.2.1 pc = .ok (.if_icmp .ne off, 3)) (ht : (pc : Int) + off = (tgt : Int)) (kt : ¬ a = b → am_T sd y d Q tgt L stk σ) (kf : a = b → am_T sd y d Q (pc + 3) L stk σ) : am_T sd y d Q pc L (.int b :: .int a :: stk) σ :=
  fun p l e s m args below meth c D K ρ A H locs ls hX hK hA hl hP hD hS => lv_icmp_ne hX.1 hX.2.1 hd ht (fun h => kt h p l e s m args below meth c D K ρ A H locs ls hX hK hA hl hP hD hS) (fun h => kf h p l e s m args below meth c D K ρ A H locs ls hX hK hA hl hP hD hS)
theorem am_if_lt {a : Int32} {off : Int} {tgt : Nat} (hd : decode y.2.1 pc = .ok (.ifCond .lt off, 3)) (ht : (pc : Int) + off = (tgt : Int)) (kt : a < 0 → am_T sd y d Q tgt L stk σ) (kf : ¬ a < 0 → am_T sd y d Q (pc + 3) L stk σ) : am_T sd y d Q pc L (.int a :: stk) σ :=
  fun p l e s m args below meth c D K ρ A H locs ls hX hK hA hl hP hD hS => lv_if_lt hX.1 hX.2.1 hd ht (fun h => kt h p l e s m args below meth c D K ρ A H locs ls hX hK hA hl hP hD hS) (fun h => kf h p l e s m args below meth c D K ρ A H locs ls hX hK hA hl hP hD hS)
theorem am_icmp_lt {a b : Int32} {off : Int} {tgt : Nat} (hd : decode y.2.1 pc = .ok (.if_icmp .lt off, 3)) (ht : (pc : Int) + off = (tgt : Int)) (kt : a < b → am_T sd y d Q tgt L stk σ) (kf : ¬ a < b → am_T sd y d Q (pc + 3) L stk σ) : am_T sd y d Q pc L (.int b :: .int a :: stk) σ :=
  fun p l e s m args below meth c D K ρ A H locs ls hX hK hA hl hP hD hS => lv_icmp_lt hX.1 hX.2.1 hd ht (fun h => kt h p l e s m args below meth c D K ρ A H locs ls hX hK hA hl hP hD hS) (fun h => kf h p l e s m args below meth c D K ρ A H locs ls hX hK hA hl hP hD hS)
theorem am_if_ge {a : Int32} {off : Int} {tgt : Nat} (hd : decode y.2.1 pc = .ok (.ifCond .ge off, 3)) (ht : (pc : Int) + off = (tgt : Int)) (kt : 0 ≤ a → am_T sd y d Q tgt L stk σ) (kf : ¬ 0 ≤ a → am_T sd y d Q (pc + 3) L stk σ) : am_T sd y d Q pc L (.int a :: stk) σ :=
  fun p l e s m args below meth c D K ρ A H locs ls hX hK hA hl hP hD hS => lv_if_ge hX.1 hX.2.1 hd ht (fun h => kt h p l e s m args below meth c D K ρ A H locs ls hX hK hA hl hP hD hS) (fun h => kf h p l e s m args below meth c D K ρ A H locs ls hX hK hA hl hP hD hS)
theorem am_icmp_ge {a b : Int32} {off : Int} {tgt : Nat} (hd : decode y.2.1 pc = .ok (.if_icmp .ge off, 3)) (ht : (pc : Int) + off = (tgt : Int)) (kt : b ≤ a → am_T sd y d Q tgt L stk σ) (kf : ¬ b ≤ a → am_T sd y d Q (pc + 3) L stk σ) : am_T sd y d Q pc L (.int b :: .int a :: stk) σ :=
  fun p l e s m args below meth c D K ρ A H locs ls hX hK hA hl hP hD hS => lv_icmp_ge hX.1 hX.2.1 hd ht (fun h => kt h p l e s m args below meth c D K ρ A H locs ls hX hK hA hl hP hD hS) (fun h => kf h p l e s m args below meth c D K ρ A H locs ls hX hK hA hl hP hD hS)
theorem am_if_gt {a : Int32} {off : Int} {tgt : Nat} (hd : decode y.2.1 pc = .ok (.ifCond .gt off, 3)) (ht : (pc : Int) + off = (tgt : Int)) (kt : 0 < a → am_T sd y d Q tgt L stk σ) (kf : ¬ 0 < a → am_T sd y d Q (pc + 3) L stk σ) : am_T sd y d Q pc L (.int a :: stk) σ :=
  fun p l e s m args below meth c D K ρ A H locs ls hX hK hA hl hP hD hS => lv_if_gt hX.1 hX.2.1 hd ht (fun h => kt h p l e s m args below meth c D K ρ A H locs ls hX hK hA hl hP hD hS) (fun h => kf h p l e s m args below meth c D K ρ A H locs ls hX hK hA hl hP hD hS)
theorem am_icmp_gt {a b : Int32} {off : Int} {tgt : Nat} (hd : decode y.2.1 pc = .ok (.if_icmp .gt off, 3)) (ht : (pc : Int) + off = (tgt : Int)) (kt : b < a → am_T sd y d Q tgt L stk σ) (kf : ¬ b < a → am_T sd y d Q (pc + 3) L stk σ) : am_T sd y d Q pc L (.int b :: .int a :: stk) σ :=
  fun p l e s m args below meth c D K ρ A H locs ls hX hK hA hl hP hD hS => lv_icmp_gt hX.1 hX.2.1 hd ht (fun h => kt h p l e s m args below meth c D K ρ A H locs ls hX hK hA hl hP hD hS) (fun h => kf h p l e s m args below meth c D K ρ A H locs ls hX hK hA hl hP hD hS)
theorem am_if_le {a : Int32} {off : Int} {tgt : Nat} (hd : decode y.2.1 pc = .ok (.ifCond .le off, 3)) (ht : (pc : Int) + off = (tgt : Int)) (kt : a ≤ 0 → am_T sd y d Q tgt L stk σ) (kf : ¬ a ≤ 0 → am_T sd y d Q (pc + 3) L stk σ) : am_T sd y d Q pc L (.int a :: stk) σ :=
  fun p l e s m args below meth c D K ρ A H locs ls hX hK hA hl hP hD hS => lv_if_le hX.1 hX.2.1 hd ht (fun h => kt h p l e s m args below meth c D K ρ A H locs ls hX hK hA hl hP hD hS) (fun h => kf h p l e s m args below meth c D K ρ A H locs ls hX hK hA hl hP hD hS)
theorem am_icmp_le {a b : Int32} {off : Int} {tgt : Nat} (hd : decode y.2.1 pc = .ok (.if_icmp .le off, 3)) (ht : (pc : Int) + off = (tgt : Int)) (kt : a ≤ b → am_T sd y d Q tgt L stk σ) (kf : ¬ a ≤ b → am_T sd y d Q (pc + 3) L stk σ) : am_T sd y d Q pc L (.int b :: .int a :: stk) σ :=
  fun p l e s m args below meth c D K ρ A H locs ls hX hK hA hl hP hD hS => lv_icmp_le hX.1 hX.2.1 hd ht (fun h => kt h p l e s m args below meth c D K ρ A H locs ls hX hK hA hl hP hD hS) (fun h => kf h p l e s m args below meth c D K ρ A H locs ls hX hK hA hl hP hD hS)
theorem am_lookup {dflt : Int} {ps : Array (Int × Int)} {len : Nat} {a : Int32} {off : Int} {tgt : Nat} (hd : decode y.2.1 pc = .ok (.lookupswitch dflt ps, len)) (hp : (ps.toList.zip (ps.toList.drop 1)).all (fun (a, next) => a.1 < next.1) = true) (ho : Op.lookupswitch.offset ps.toList dflt a.toInt = off) (ht : (pc : Int) + off = (tgt : Int)) (k : am_T sd y d Q tgt L stk σ) : am_T sd y d Q pc L (.int a :: stk) σ :=
  fun p l e s m args below meth c D K ρ A H locs ls hX hK hA hl hP hD hS => lv_lookup hX.1 hX.2.1 hd hp ho ht (k p l e s m args below meth c D K ρ A H locs ls hX hK hA hl hP hD hS)
theorem am_tableOut {dflt lo hi : Int} {offs : Array Int} {len : Nat} {a : Int32} {tgt : Nat} (hd : decode y.2.1 pc = .ok (.tableswitch dflt lo hi offs, len)) (h : a.toInt < lo ∨ hi < a.toInt) (ht : (pc : Int) + dflt = (tgt : Int)) (k : am_T sd y d Q tgt L stk σ) : am_T sd y d Q pc L (.int a :: stk) σ :=
  fun p l e s m args below meth c D K ρ A H locs ls hX hK hA hl hP hD hS => lv_tableOut hX.1 hX.2.1 hd h ht (k p l e s m args below meth c D K ρ A H locs ls hX hK hA hl hP hD hS)
theorem am_tableIn {dflt lo hi : Int} {offs : Array Int} {len : Nat} {a : Int32} {off : Int} {tgt : Nat} (hd : decode y.2.1 pc = .ok (.tableswitch dflt lo hi offs, len)) (h1 : ¬ a.toInt < lo) (h2 : ¬ hi < a.toInt) (ho : offs[(a.toInt - lo).toNat]? = some off) (ht : (pc : Int) + off = (tgt : Int)) (k : am_T sd y d Q tgt L stk σ) : am_T sd y d Q pc L (.int a :: stk) σ :=
  fun p l e s m args below meth c D K ρ A H locs ls hX hK hA hl hP hD hS => lv_tableIn hX.1 hX.2.1 hd h1 h2 ho ht (k p l e s m args below meth c D K ρ A H locs ls hX hK hA hl hP hD hS)
/-! fields -/
theorem am_get {o ci k idx : Nat} (hd : decode y.2.1 pc = .ok (.getfield idx, 3)) (hw : am_fl y.1.cls idx ci k) (ho : am_k sd o = ci) (hc : ci < 12) (hk : (am_fk ci k).1 < 9) (kk : am_T sd y d Q (pc + 3) L (am_fa σ ci o k :: stk) σ) : am_T sd y d Q pc L (.ref (am_oid o) :: stk) σ := by
  intro p l e s m args below meth c D K ρ A H locs ls hX hK hA hl hP hD hS
  obtain ⟨C, F, N, ty, h1, h2, h3, h4, h5, h6⟩ := am_cf_all ci hc
  obtain ⟨C', F', N', g1, g2⟩ := hw
  obtain ⟨rfl, rfl, rfl⟩ : C' = C ∧ F' = F ∧ N' = N := by have := g1.symm.trans h1; simp at this; exact this
  obtain ⟨q0, i1, i2⟩ := am_at_w (K := K) (ρ := ρ) (σ := σ) (am_in_o ho hc)
  rw [am_ce_o ho] at i2
  have hkn : k < am_nf ci := am_fk_lt hc hk
  exact va_get (C := C') (T := F') (N := N') (ci := ci) hX.1 hX.2.1 hX.2.2.2.2.2.2 h3 hX.2.2.2.2.2.1 hK hP q0 i2 h1 k (by rw [h2]; exact hkn) (hX.2.2.2.2.2.2 _ g2) (fun _ h => h) (v := am_v ρ (am_fa σ ci o k)) (by rw [List.getElem?_map, List.getElem?_range hkn]; rfl) hd (kk p l e s m args below meth c D K ρ A H locs ls hX hK hA hl hP hD hS)
theorem am_putI {o ci k idx : Nat} {v : Int32} (hd : decode y.2.1 pc = .ok (.putfield idx, 3)) (hw : am_fl y.1.cls idx ci k) (ho : am_k sd o = ci) (hc : ci < 12) (hk : (am_fk ci k).1 = 0) (kk : am_T sd y d Q (pc + 3) L stk (am_sI σ o k v)) : am_T sd y d Q pc L (.int v :: .ref (am_oid o) :: stk) σ := by
  intro p l e s m args below meth c D K ρ A H locs ls hX hK hA hl hP hD hS
  subst ho
  obtain ⟨C, F, N, ty, h1, h2, h3, h4, h5, h6⟩ := am_cf_all _ hc
  obtain ⟨C', F', N', g1, g2⟩ := hw
  obtain ⟨rfl, rfl, rfl⟩ : C' = C ∧ F' = F ∧ N' = N := by have := g1.symm.trans h1; simp at this; exact this
  obtain ⟨q0, i1, i2⟩ := am_at_w (K := K) (ρ := ρ) (σ := σ) (am_in_o rfl hc)
  rw [am_ce_o rfl] at i2
  have hkn : k < am_nf (am_k sd o) := am_fk_lt hc (by rw [hk]; decide)
  obtain ⟨t1, t2⟩ := (h6 k (by rw [h2]; exact hkn)).1 hk
  have hset := am_set_w (K := K) (ρ := ρ) (σ := σ) (σ' := am_sI σ o k v) i1 (am_ce_put (v := .int v) (by unfold am_fa; rw [hk, am_I_sI, if_pos ⟨rfl, rfl⟩]; rfl) (fun k' hk' => am_fa_sI (fun h => hk' h.1))) (am_ce_else (o := o) (fun _ _ => rfl) (fun ci' o' k' ho' => am_fa_sI (fun h => ho' h.2)))
  refine va_put (C := C') (T := F') (N := N') (ci := am_k sd o) (v := am_v ρ (.int v)) (ty := ty k) hX.1 hX.2.1 hX.2.2.2.2.2.2 h3 ty h4 h5 hX.2.2.2.2.2.1 hK hP hD hS q0 i2 h1 k (by rw [h2]; exact hkn) (hX.2.2.2.2.2.2 _ g2) (fun _ h => h) t2 (h4 k (by rw [h2]; exact hkn)) (by rw [t1]; rfl) (by rw [t1]; rfl) (by rw [List.length_map, List.length_range]; exact hkn) hd (fun H1 locs1 hP1 hD1 hS1 => ?_)
  rw [hset] at hP1 hD1
  exact kk p l e s m args below meth c D K ρ A H1 locs1 ls hX hK hA hl hP1 hD1 hS1
theorem am_putZ {o ci k idx : Nat} {v : Int32} (hd : decode y.2.1 pc = .ok (.putfield idx, 3)) (hw : am_fl y.1.cls idx ci k) (ho : am_k sd o = ci) (hc : ci < 12) (hk : (am_fk ci k).1 = 1) (hv : v = 0 ∨ v = 1) (kk : am_T sd y d Q (pc + 3) L stk (am_sI σ o k v)) : am_T sd y d Q pc L (.int v :: .ref (am_oid o) :: stk) σ := by
  intro p l e s m args below meth c D K ρ A H locs ls hX hK hA hl hP hD hS
  subst ho
  obtain ⟨C, F, N, ty, h1, h2, h3, h4, h5, h6⟩ := am_cf_all _ hc
  obtain ⟨C', F', N', g1, g2⟩ := hw
  obtain ⟨rfl, rfl, rfl⟩ : C' = C ∧ F' = F ∧ N' = N := by have := g1.symm.trans h1; simp at this; exact this
  obtain ⟨q0, i1, i2⟩ := am_at_w (K := K) (ρ := ρ) (σ := σ) (am_in_o rfl hc)
  rw [am_ce_o rfl] at i2
  have hkn : k < am_nf (am_k sd o) := am_fk_lt hc (by rw [hk]; decide)
  obtain ⟨t1, t2⟩ := (h6 k (by rw [h2]; exact hkn)).2.1 hk
  have hset := am_set_w (K := K) (ρ := ρ) (σ := σ) (σ' := am_sI σ o k v) i1 (am_ce_put (v := .int v) (by unfold am_fa; rw [hk, am_I_sI, if_pos ⟨rfl, rfl⟩]; rfl) (fun k' hk' => am_fa_sI (fun h => hk' h.1))) (am_ce_else (o := o) (fun _ _ => rfl) (fun ci' o' k' ho' => am_fa_sI (fun h => ho' h.2)))
  refine va_put (C := C') (T := F') (N := N') (ci := am_k sd o) (v := am_v ρ (.int v)) (ty := ty k) hX.1 hX.2.1 hX.2.2.2.2.2.2 h3 ty h4 h5 hX.2.2.2.2.2.1 hK hP hD hS q0 i2 h1 k (by rw [h2]; exact hkn) (hX.2.2.2.2.2.2 _ g2) (fun _ h => h) t2 (h4 k (by rw [h2]; exact hkn)) (by rw [t1]; rcases hv with rfl | rfl <;> rfl) (by rw [t1]; rcases hv with rfl | rfl <;> rfl) (by rw [List.length_map, List.length_range]; exact hkn) hd (fun H1 locs1 hP1 hD1 hS1 => ?_)
  rw [hset] at hP1 hD1
  exact kk p l e s m args below meth c D K ρ A H1 locs1 ls hX hK hA hl hP1 hD1 hS1
theorem am_oneJ : ∀ ci, ci < 12 → ∀ k, k < am_nf ci → ∀ k', k' < am_nf ci → (am_fk ci k).1 = 2 → (am_fk ci k').1 = 2 → k' = k := by decide +kernel
theorem am_putJ {o ci k idx : Nat} {v : Int64} (hd : decode y.2.1 pc = .ok (.putfield idx, 3)) (hw : am_fl y.1.cls idx ci k) (ho : am_k sd o = ci) (hc : ci < 12) (hk : (am_fk ci k).1 = 2) (kk : am_T sd y d Q (pc + 3) L stk (am_sJ σ o v)) : am_T sd y d Q pc L (.long v :: .ref (am_oid o) :: stk) σ := by
  intro p l e s m args below meth c D K ρ A H locs ls hX hK hA hl hP hD hS
  subst ho
  obtain ⟨C, F, N, ty, h1, h2, h3, h4, h5, h6⟩ := am_cf_all _ hc
  obtain ⟨C', F', N', g1, g2⟩ := hw
  obtain ⟨rfl, rfl, rfl⟩ : C' = C ∧ F' = F ∧ N' = N := by have := g1.symm.trans h1; simp at this; exact this
  obtain ⟨q0, i1, i2⟩ := am_at_w (K := K) (ρ := ρ) (σ := σ) (am_in_o rfl hc)
  rw [am_ce_o rfl] at i2
  have hkn : k < am_nf (am_k sd o) := am_fk_lt hc (by rw [hk]; decide)
  obtain ⟨t1, t2⟩ := (h6 k (by rw [h2]; exact hkn)).2.2.1 hk
  have hset := am_set_w (K := K) (ρ := ρ) (σ := σ) (σ' := am_sJ σ o v) i1 (am_ce_put (v := .long v) (by unfold am_fa; rw [hk, am_J_sJ, if_pos rfl]; rfl) (fun k' hk' => am_fa_sJ (Or.inr (fun h => hk' (am_oneJ _ hc k hkn k' (am_fk_lt hc (by rw [h]; decide)) hk h))))) (am_ce_else (o := o) (fun _ _ => rfl) (fun ci' o' k' ho' => am_fa_sJ (Or.inl ho')))
  refine va_put (C := C') (T := F') (N := N') (ci := am_k sd o) (v := am_v ρ (.long v)) (ty := ty k) hX.1 hX.2.1 hX.2.2.2.2.2.2 h3 ty h4 h5 hX.2.2.2.2.2.1 hK hP hD hS q0 i2 h1 k (by rw [h2]; exact hkn) (hX.2.2.2.2.2.2 _ g2) (fun _ h => h) t2 (h4 k (by rw [h2]; exact hkn)) (by rw [t1]; rfl) (by rw [t1]; rfl) (by rw [List.length_map, List.length_range]; exact hkn) hd (fun H1 locs1 hP1 hD1 hS1 => ?_)
  rw [hset] at hP1 hD1
  exact kk p l e s m args below meth c D K ρ A H1 locs1 ls hX hK hA hl hP1 hD1 hS1
theorem am_putR {o ci k idx : Nat} {v : Nat} (hd : decode y.2.1 pc = .ok (.putfield idx, 3)) (hw : am_fl y.1.cls idx ci k) (ho : am_k sd o = ci) (hc : ci < 12) (hk : (am_fk ci k).1 = 5) (kk : am_T sd y d Q (pc + 3) L stk (am_sR σ o k v)) : am_T sd y d Q pc L (.ref (am_oid v) :: .ref (am_oid o) :: stk) σ := by
  intro p l e s m args below meth c D K ρ A H locs ls hX hK hA hl hP hD hS
  subst ho
  obtain ⟨C, F, N, ty, h1, h2, h3, h4, h5, h6⟩ := am_cf_all _ hc
  obtain ⟨C', F', N', g1, g2⟩ := hw
  obtain ⟨rfl, rfl, rfl⟩ : C' = C ∧ F' = F ∧ N' = N := by have := g1.symm.trans h1; simp at this; exact this
  obtain ⟨q0, i1, i2⟩ := am_at_w (K := K) (ρ := ρ) (σ := σ) (am_in_o rfl hc)
  rw [am_ce_o rfl] at i2
  have hkn : k < am_nf (am_k sd o) := am_fk_lt hc (by rw [hk]; decide)
  obtain ⟨t1, t2⟩ := (h6 k (by rw [h2]; exact hkn)).2.2.2 hk
  have hset := am_set_w (K := K) (ρ := ρ) (σ := σ) (σ' := am_sR σ o k v) i1 (am_ce_put (v := .ref (am_oid v)) (by unfold am_fa; rw [hk, am_R_sR, if_pos ⟨rfl, rfl⟩]; rfl) (fun k' hk' => am_fa_sR (fun h => hk' h.1))) (am_ce_else (o := o) (fun _ _ => rfl) (fun ci' o' k' ho' => am_fa_sR (fun h => ho' h.2)))
  refine va_put (C := C') (T := F') (N := N') (ci := am_k sd o) (v := am_v ρ (.ref (am_oid v))) (ty := ty k) hX.1 hX.2.1 hX.2.2.2.2.2.2 h3 ty h4 h5 hX.2.2.2.2.2.1 hK hP hD hS q0 i2 h1 k (by rw [h2]; exact hkn) (hX.2.2.2.2.2.2 _ g2) (fun _ h => h) t2 (h4 k (by rw [h2]; exact hkn)) (by rw [t1]; rfl) (by rw [t1]; rfl) (by rw [List.length_map, List.length_range]; exact hkn) hd (fun H1 locs1 hP1 hD1 hS1 => ?_)
  rw [hset] at hP1 hD1
  exact kk p l e s m args below meth c D K ρ A H1 locs1 ls hX hK hA hl hP1 hD1 hS1
theorem am_getI {o ci k idx : Nat} (hd : decode y.2.1 pc = .ok (.getfield idx, 3)) (hw : am_fl y.1.cls idx ci k) (ho : am_k sd o = ci) (hc : ci < 12) (hk : (am_fk ci k).1 = 0) (kk : am_T sd y d Q (pc + 3) L (.int (am_I σ o k) :: stk) σ) : am_T sd y d Q pc L (.ref (am_oid o) :: stk) σ := by
  refine am_get hd hw ho hc (by rw [hk]; decide) ?_
  have e : am_fa σ ci o k = .int (am_I σ o k) := by unfold am_fa; rw [hk]; rfl
  rw [e]
  exact kk
theorem am_getZ {o ci k idx : Nat} (hd : decode y.2.1 pc = .ok (.getfield idx, 3)) (hw : am_fl y.1.cls idx ci k) (ho : am_k sd o = ci) (hc : ci < 12) (hk : (am_fk ci k).1 = 1) (kk : am_T sd y d Q (pc + 3) L (.int (am_I σ o k) :: stk) σ) : am_T sd y d Q pc L (.ref (am_oid o) :: stk) σ := by
  refine am_get hd hw ho hc (by rw [hk]; decide) ?_
  have e : am_fa σ ci o k = .int (am_I σ o k) := by unfold am_fa; rw [hk]; rfl
  rw [e]
  exact kk
theorem am_getJ {o ci k idx : Nat} (hd : decode y.2.1 pc = .ok (.getfield idx, 3)) (hw : am_fl y.1.cls idx ci k) (ho : am_k sd o = ci) (hc : ci < 12) (hk : (am_fk ci k).1 = 2) (kk : am_T sd y d Q (pc + 3) L (.long (am_J σ o) :: stk) σ) : am_T sd y d Q pc L (.ref (am_oid o) :: stk) σ := by
  refine am_get hd hw ho hc (by rw [hk]; decide) ?_
  have e : am_fa σ ci o k = .long (am_J σ o) := by unfold am_fa; rw [hk]; rfl
  rw [e]
  exact kk
theorem am_getA {o ci k idx : Nat} (hd : decode y.2.1 pc = .ok (.getfield idx, 3)) (hw : am_fl y.1.cls idx ci k) (ho : am_k sd o = ci) (hc : ci < 12) (hk : (am_fk ci k).1 = 3) (kk : am_T sd y d Q (pc + 3) L (.ref (am_aid o k) :: stk) σ) : am_T sd y d Q pc L (.ref (am_oid o) :: stk) σ := by
  refine am_get hd hw ho hc (by rw [hk]; decide) ?_
  have e : am_fa σ ci o k = .ref (am_aid o k) := by unfold am_fa; rw [hk]; rfl
  rw [e]
  exact kk
theorem am_getO {o ci k idx : Nat} (hd : decode y.2.1 pc = .ok (.getfield idx, 3)) (hw : am_fl y.1.cls idx ci k) (ho : am_k sd o = ci) (hc : ci < 12) (hk : (am_fk ci k).1 = 4) (kk : am_T sd y d Q (pc + 3) L (.ref (am_oid (am_lk o k)) :: stk) σ) : am_T sd y d Q pc L (.ref (am_oid o) :: stk) σ := by
  refine am_get hd hw ho hc (by rw [hk]; decide) ?_
  have e : am_fa σ ci o k = .ref (am_oid (am_lk o k)) := by unfold am_fa; rw [hk]; rfl
  rw [e]
  exact kk
theorem am_getR {o ci k idx : Nat} (hd : decode y.2.1 pc = .ok (.getfield idx, 3)) (hw : am_fl y.1.cls idx ci k) (ho : am_k sd o = ci) (hc : ci < 12) (hk : (am_fk ci k).1 = 5) (kk : am_T sd y d Q (pc + 3) L (.ref (am_oid (am_R σ o k)) :: stk) σ) : am_T sd y d Q pc L (.ref (am_oid o) :: stk) σ := by
  refine am_get hd hw ho hc (by rw [hk]; decide) ?_
  have e : am_fa σ ci o k = .ref (am_oid (am_R σ o k)) := by unfold am_fa; rw [hk]; rfl
  rw [e]
  exact kk
/-! arrays -/
theorem am_iald {o ci k n : Nat} {i : Int32} (hd : decode y.2.1 pc = .ok (.iaload, 1)) (ho : am_k sd o = ci) (hc : ci < 12) (hk : am_fk ci k = (3, 0, n)) (hi : vp_in i n) (kk : am_T sd y d Q (pc + 1) L (.int (am_A σ o k i.toNatClampNeg) :: stk) σ) : am_T sd y d Q pc L (.int i :: .ref (am_aid o k) :: stk) σ := by
  intro p l e s m args below meth c D K ρ A H locs ls hX hK hA hl hP hD hS
  have h3 : (am_fk ci k).1 = 3 := by rw [hk]
  obtain ⟨q0, i1, i2⟩ := am_at_w (K := K) (ρ := ρ) (σ := σ) (am_in_a ho hc h3)
  rw [am_ce_a ho (Nat.lt_trans (am_fk_lt hc (by rw [h3]; decide)) (am_nf_lt ci hc)), hk] at i2
  exact va_iald hX.1 hX.2.1 hK hP q0 0 i2 rfl hi hd (kk p l e s m args below meth c D K ρ A H locs ls hX hK hA hl hP hD hS)
theorem am_bald {o ci k n : Nat} {i : Int32} (hd : decode y.2.1 pc = .ok (.baload, 1)) (ho : am_k sd o = ci) (hc : ci < 12) (hk : am_fk ci k = (3, 1, n)) (hi : vp_in i n) (kk : am_T sd y d Q (pc + 1) L (.int (am_A σ o k i.toNatClampNeg) :: stk) σ) : am_T sd y d Q pc L (.int i :: .ref (am_aid o k) :: stk) σ := by
  intro p l e s m args below meth c D K ρ A H locs ls hX hK hA hl hP hD hS
  have h3 : (am_fk ci k).1 = 3 := by rw [hk]
  obtain ⟨q0, i1, i2⟩ := am_at_w (K := K) (ρ := ρ) (σ := σ) (am_in_a ho hc h3)
  rw [am_ce_a ho (Nat.lt_trans (am_fk_lt hc (by rw [h3]; decide)) (am_nf_lt ci hc)), hk] at i2
  exact va_bald hX.1 hX.2.1 hK hP q0 1 i2 rfl hi hd (kk p l e s m args below meth c D K ρ A H locs ls hX hK hA hl hP hD hS)
theorem am_zald {o ci k n : Nat} {i : Int32} (hd : decode y.2.1 pc = .ok (.baload, 1)) (ho : am_k sd o = ci) (hc : ci < 12) (hk : am_fk ci k = (3, 2, n)) (hi : vp_in i n) (kk : am_T sd y d Q (pc + 1) L (.int (am_A σ o k i.toNatClampNeg) :: stk) σ) : am_T sd y d Q pc L (.int i :: .ref (am_aid o k) :: stk) σ := by
  intro p l e s m args below meth c D K ρ A H locs ls hX hK hA hl hP hD hS
  have h3 : (am_fk ci k).1 = 3 := by rw [hk]
  obtain ⟨q0, i1, i2⟩ := am_at_w (K := K) (ρ := ρ) (σ := σ) (am_in_a ho hc h3)
  rw [am_ce_a ho (Nat.lt_trans (am_fk_lt hc (by rw [h3]; decide)) (am_nf_lt ci hc)), hk] at i2
  exact va_zald hX.1 hX.2.1 hK hP q0 2 i2 rfl hi hd (kk p l e s m args below meth c D K ρ A H locs ls hX hK hA hl hP hD hS)
theorem am_iast {o ci k n : Nat} {i x : Int32} (hd : decode y.2.1 pc = .ok (.iastore, 1)) (ho : am_k sd o = ci) (hc : ci < 12) (hk : am_fk ci k = (3, 0, n)) (hi : vp_in i n) (kk : am_T sd y d Q (pc + 1) L stk (am_sA σ o k (upd (am_A σ o k) i.toNatClampNeg (x)))) : am_T sd y d Q pc L (.int x :: .int i :: .ref (am_aid o k) :: stk) σ := by
  intro p l e s m args below meth c D K ρ A H locs ls hX hK hA hl hP hD hS
  have h3 : (am_fk ci k).1 = 3 := by rw [hk]
  have h63 : k < 63 := Nat.lt_trans (am_fk_lt hc (by rw [h3]; decide)) (am_nf_lt ci hc)
  obtain ⟨q0, i1, i2⟩ := am_at_w (K := K) (ρ := ρ) (σ := σ) (am_in_a ho hc h3)
  rw [am_ce_a ho h63, hk] at i2
  have hset := am_set_w (K := K) (ρ := ρ) (σ := σ) (σ' := am_sA σ o k (upd (am_A σ o k) i.toNatClampNeg (x))) i1 (by rw [am_ce_a ho h63, hk, am_A_sA, if_pos ⟨rfl, rfl⟩]) (fun j hj => am_ce_elseA j hj)
  refine va_iast (x := x) hX.1 hX.2.1 hK hP hD hS q0 0 i2 rfl hi hd (fun H1 locs1 hP1 hD1 hS1 => ?_)
  rw [hset] at hP1 hD1
  exact kk p l e s m args below meth c D K ρ A H1 locs1 ls hX hK hA hl hP1 hD1 hS1
theorem am_bast {o ci k n : Nat} {i x : Int32} (hd : decode y.2.1 pc = .ok (.bastore, 1)) (ho : am_k sd o = ci) (hc : ci < 12) (hk : am_fk ci k = (3, 1, n)) (hi : vp_in i n) (kk : am_T sd y d Q (pc + 1) L stk (am_sA σ o k (upd (am_A σ o k) i.toNatClampNeg (vp_nar .byte x)))) : am_T sd y d Q pc L (.int x :: .int i :: .ref (am_aid o k) :: stk) σ := by
  intro p l e s m args below meth c D K ρ A H locs ls hX hK hA hl hP hD hS
  have h3 : (am_fk ci k).1 = 3 := by rw [hk]
  have h63 : k < 63 := Nat.lt_trans (am_fk_lt hc (by rw [h3]; decide)) (am_nf_lt ci hc)
  obtain ⟨q0, i1, i2⟩ := am_at_w (K := K) (ρ := ρ) (σ := σ) (am_in_a ho hc h3)
  rw [am_ce_a ho h63, hk] at i2
  have hset := am_set_w (K := K) (ρ := ρ) (σ := σ) (σ' := am_sA σ o k (upd (am_A σ o k) i.toNatClampNeg (vp_nar .byte x))) i1 (by rw [am_ce_a ho h63, hk, am_A_sA, if_pos ⟨rfl, rfl⟩]) (fun j hj => am_ce_elseA j hj)
  refine va_bast (x := x) hX.1 hX.2.1 hK hP hD hS q0 1 i2 rfl hi hd (fun H1 locs1 hP1 hD1 hS1 => ?_)
  rw [hset] at hP1 hD1
  exact kk p l e s m args below meth c D K ρ A H1 locs1 ls hX hK hA hl hP1 hD1 hS1
theorem am_zast {o ci k n : Nat} {i x : Int32} (hd : decode y.2.1 pc = .ok (.bastore, 1)) (ho : am_k sd o = ci) (hc : ci < 12) (hk : am_fk ci k = (3, 2, n)) (hi : vp_in i n) (kk : am_T sd y d Q (pc + 1) L stk (am_sA σ o k (upd (am_A σ o k) i.toNatClampNeg (vp_nar .boolean x)))) : am_T sd y d Q pc L (.int x :: .int i :: .ref (am_aid o k) :: stk) σ := by
  intro p l e s m args below meth c D K ρ A H locs ls hX hK hA hl hP hD hS
  have h3 : (am_fk ci k).1 = 3 := by rw [hk]
  have h63 : k < 63 := Nat.lt_trans (am_fk_lt hc (by rw [h3]; decide)) (am_nf_lt ci hc)
  obtain ⟨q0, i1, i2⟩ := am_at_w (K := K) (ρ := ρ) (σ := σ) (am_in_a ho hc h3)
  rw [am_ce_a ho h63, hk] at i2
  have hset := am_set_w (K := K) (ρ := ρ) (σ := σ) (σ' := am_sA σ o k (upd (am_A σ o k) i.toNatClampNeg (vp_nar .boolean x))) i1 (by rw [am_ce_a ho h63, hk, am_A_sA, if_pos ⟨rfl, rfl⟩]) (fun j hj => am_ce_elseA j hj)
  refine va_zast (x := x) hX.1 hX.2.1 hK hP hD hS q0 2 i2 rfl hi hd (fun H1 locs1 hP1 hD1 hS1 => ?_)
  rw [hset] at hP1 hD1
  exact kk p l e s m args below meth c D K ρ A H1 locs1 ls hX hK hA hl hP1 hD1 hS1
theorem am_alen {o ci k el n : Nat} {v : Int32} (hd : decode y.2.1 pc = .ok (.arraylength, 1)) (ho : am_k sd o = ci) (hc : ci < 12) (hk : am_fk ci k = (3, el, n)) (he : el < 3) (hv : Int32.ofNat n = v) (kk : am_T sd y d Q (pc + 1) L (.int v :: stk) σ) : am_T sd y d Q pc L (.ref (am_aid o k) :: stk) σ := by
  intro p l e s m args below meth c D K ρ A H locs ls hX hK hA hl hP hD hS
  have h3 : (am_fk ci k).1 = 3 := by rw [hk]
  obtain ⟨q0, i1, i2⟩ := am_at_w (K := K) (ρ := ρ) (σ := σ) (am_in_a ho hc h3)
  rw [am_ce_a ho (Nat.lt_trans (am_fk_lt hc (by rw [h3]; decide)) (am_nf_lt ci hc)), hk] at i2
  match el, he, i2 with
  | 0, _, i2 => exact va_alen (ty := .int) hX.1 hX.2.1 hK hP q0 0 i2 rfl hv hd (kk p l e s m args below meth c D K ρ A H locs ls hX hK hA hl hP hD hS)
  | 1, _, i2 => exact va_alen (ty := .byte) hX.1 hX.2.1 hK hP q0 1 i2 rfl hv hd (kk p l e s m args below meth c D K ρ A H locs ls hX hK hA hl hP hD hS)
  | 2, _, i2 => exact va_alen (ty := .boolean) hX.1 hX.2.1 hK hP q0 2 i2 rfl hv hd (kk p l e s m args below meth c D K ρ A H locs ls hX hK hA hl hP hD hS)
/-! ends -/
theorem am_iret {v : Int32} {ty : FieldType} (hd : decode y.2.1 pc = .ok (.ireturn, 1)) (hr : y.2.2.2 = some ty) (hn : narrow ty (.int v) = .int v) (hq : Q (some (.int v)) σ) : am_T sd y d Q pc L [.int v] σ :=
  fun p l e s m args below meth c D K ρ A H locs ls hX hK hA hl hP hD hS => W.zret hX.1 hX.2.1 (hX.2.2.2.1.trans hr) hn (fun t ht hW => ⟨⟨some (.int v), σ, rfl, hq, by rw [ht]; exact hP, va_K.moved hW.alike hK, hD⟩, hS.F ht⟩) hS.2.2 hd hX.2.2.2.2.1
theorem am_ret (hd : decode y.2.1 pc = .ok (.return_, 1)) (hr : y.2.2.2 = none) (hq : Q none σ) : am_T sd y d Q pc L [] σ :=
  fun p l e s m args below meth c D K ρ A H locs ls hX hK hA hl hP hD hS => W.vret hX.1 hX.2.1 (hX.2.2.2.1.trans hr) (fun t ht hW => ⟨⟨none, σ, rfl, hq, by rw [ht]; exact hP, va_K.moved hW.alike hK, hD⟩, hS.F ht⟩) hS.2.2 hd hX.2.2.2.2.1
end AMS
