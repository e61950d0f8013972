/-! the one text constant: its length, its signs -/
def ya_98_coder : am_Y := (⟨"java/lang/String", "coder", "()B"⟩, prog_21_method_152_code, 1, some .byte)
def ya_98_isLatin1 : am_Y := (⟨"java/lang/String", "isLatin1", "()Z"⟩, prog_21_method_154_code, 1, some .boolean)
def ya_98_length : am_Y := (⟨"java/lang/String", "length", "()I"⟩, prog_21_method_54_code, 1, some .int)
def ya_98_charAt : am_Y := (⟨"java/lang/String", "charAt", "(I)C"⟩, prog_21_method_56_code, 2, some .char)
def ya_98_sci : am_Y := (⟨"java/lang/String", "checkIndex", "(II)V"⟩, prog_21_method_155_code, 2, none)
def ya_98_lca : am_Y := (⟨"java/lang/StringLatin1", "charAt", "([BI)C"⟩, prog_22_method_2_code, 2, some .char)
def ya_98_pci : am_Y := (⟨"jdk/internal/util/Preconditions", "checkIndex", "(IILjava/util/function/BiFunction;)I"⟩, prog_30_method_11_code, 3, some .int)
def tb_98_coder : List (Nat × Instr × Nat) := [(0, .getstatic 38, 3), (3, .ifCond .eq 10, 3), (6, .aload_n 0, 1), (7, .getfield 15, 3), (10, .goto 4, 3), (14, .ireturn, 1)]
theorem td_98_coder : am_all ya_98_coder.2.1 tb_98_coder = true := by decide +kernel
def tb_98_isLatin1 : List (Nat × Instr × Nat) := [(0, .getstatic 38, 3), (3, .ifCond .eq 14, 3), (6, .aload_n 0, 1), (7, .getfield 15, 3), (10, .ifCond .ne 7, 3), (13, .iconst 1, 1), (14, .goto 4, 3), (18, .ireturn, 1)]
theorem td_98_isLatin1 : am_all ya_98_isLatin1.2.1 tb_98_isLatin1 = true := by decide +kernel
def tb_98_length : List (Nat × Instr × Nat) := [(0, .aload_n 0, 1), (1, .getfield 9, 3), (4, .arraylength, 1), (5, .aload_n 0, 1), (6, .invokevirtual 335, 3), (9, .ishr, 1), (10, .ireturn, 1)]
theorem td_98_length : am_all ya_98_length.2.1 tb_98_length = true := by decide +kernel
def tb_98_charAt : List (Nat × Instr × Nat) := [(0, .aload_n 0, 1), (1, .invokevirtual 492, 3), (4, .ifCond .eq 12, 3), (7, .aload_n 0, 1), (8, .getfield 9, 3), (11, .iload_n 1, 1), (12, .invokestatic 495, 3), (15, .ireturn, 1)]
theorem td_98_charAt : am_all ya_98_charAt.2.1 tb_98_charAt = true := by decide +kernel
def tb_98_sci : List (Nat × Instr × Nat) := [(0, .iload_n 0, 1), (1, .iload_n 1, 1), (2, .getstatic 1053, 3), (5, .invokestatic 1059, 3), (8, .pop, 1), (9, .return_, 1)]
theorem td_98_sci : am_all ya_98_sci.2.1 tb_98_sci = true := by decide +kernel
def tb_98_lca : List (Nat × Instr × Nat) := [(0, .iload_n 1, 1), (1, .aload_n 0, 1), (2, .arraylength, 1), (3, .invokestatic 9, 3), (6, .aload_n 0, 1), (7, .iload_n 1, 1), (8, .baload, 1), (9, .sipush 255, 3), (12, .iand, 1), (13, .i2c, 1), (14, .ireturn, 1)]
theorem td_98_lca : am_all ya_98_lca.2.1 tb_98_lca = true := by decide +kernel
def tb_98_pci : List (Nat × Instr × Nat) := [(0, .iload_n 0, 1), (1, .ifCond .lt 8, 3), (4, .iload_n 0, 1), (5, .iload_n 1, 1), (6, .if_icmp .lt 10, 3), (16, .iload_n 0, 1), (17, .ireturn, 1)]
theorem td_98_pci : am_all ya_98_pci.2.1 tb_98_pci = true := by decide +kernel
theorem mw_98_coder : am_mV "java/lang/String" 335 ya_98_coder 0 := ⟨am_in6 114 rfl rfl, am_in6 115 rfl rfl, am_in6 116 rfl rfl, am_in1 15 rfl rfl, am_in6 117 rfl rfl, by decide, by decide, by decide +kernel, by decide⟩
theorem mw_98_isLatin1 : am_mV "java/lang/String" 492 ya_98_isLatin1 0 := ⟨am_in6 124 rfl rfl, am_in6 125 rfl rfl, am_in6 126 rfl rfl, am_in1 15 rfl rfl, am_in6 127 rfl rfl, by decide, by decide, by decide +kernel, by decide⟩
theorem mw_98_length : am_mV "InvariantLearnerModel" 152 ya_98_length 0 := ⟨am_in6 110 rfl rfl, am_in6 111 rfl rfl, am_in6 112 rfl rfl, am_in1 15 rfl rfl, am_in6 113 rfl rfl, by decide, by decide, by decide +kernel, by decide⟩
theorem mw_98_charAt : am_mV "InvariantLearnerModel" 157 ya_98_charAt 1 := ⟨am_in6 120 rfl rfl, am_in6 121 rfl rfl, am_in6 122 rfl rfl, am_in1 15 rfl rfl, am_in6 123 rfl rfl, by decide, by decide, by decide +kernel, by decide⟩
theorem mw_98_lca : am_mS "java/lang/String" 495 ya_98_lca 2 := ⟨am_in6 128 rfl rfl, am_in6 129 rfl rfl, am_in1 16 rfl rfl, am_in6 130 rfl rfl, by decide, by decide, by decide +kernel, by decide⟩
theorem mw_98_sci : am_mS "java/lang/StringLatin1" 9 ya_98_sci 2 := ⟨am_in6 131 rfl rfl, am_in6 132 rfl rfl, am_in1 15 rfl rfl, am_in6 133 rfl rfl, by decide, by decide, by decide +kernel, by decide⟩
theorem mw_98_pci : am_mS "java/lang/String" 1059 ya_98_pci 3 := ⟨am_in6 136 rfl rfl, am_in6 137 rfl rfl, am_in1 17 rfl rfl, am_in6 138 rfl rfl, by decide, by decide, by decide +kernel, by decide⟩
section STRROWS
variable {sd : Bool} {y : am_Y} {d : Nat} {Q : Option Value → am_St → Prop} {pc : Nat} {L : List (Option Value)} {σ : am_St} {stk : List Value}
theorem am_ldcS (hcls : y.1.cls = "InvariantLearnerModel") (hd : decode y.2.1 pc = .ok (.ldc 150, 2)) (k : am_T sd y d Q (pc + 2) L (.ref 2000 :: stk) σ) : am_T sd y d Q pc L stk σ := by
  intro p l e s m args below meth c D K ρ A H locs ls hX hK hA hl hP hD hS
  exact va_ldcS hX.1 hX.2.1 (hcls ▸ hX.2.2.2.2.2.1) hA.2.2.1 hd (k p l e s m args below meth c D K ρ A H locs ls hX hK hA hl hP hD hS)
theorem am_sval (hcls : y.1.cls = "java/lang/String") (hd : decode y.2.1 pc = .ok (.getfield 9, 3)) (k : am_T sd y d Q (pc + 3) L (.ref 2001 :: stk) σ) : am_T sd y d Q pc L (.ref 2000 :: stk) σ := by
  intro p l e s m args below meth c D K ρ A H locs ls hX hK hA hl hP hD hS
  exact vk_getf hX.1 hX.2.1 (hA.2.1.1 0 (by decide)).2.2.1 hS (hcls ▸ hX.2.2.2.2.2.1) (hX.2.2.2.2.2.2 _ (am_in9 61 rfl rfl)) (fun _ h => h) hd (k p l e s m args below meth c D K ρ A H locs ls hX hK hA hl hP hD hS)
theorem am_scod (hcls : y.1.cls = "java/lang/String") (hd : decode y.2.1 pc = .ok (.getfield 15, 3)) (k : am_T sd y d Q (pc + 3) L (.int 0 :: stk) σ) : am_T sd y d Q pc L (.ref 2000 :: stk) σ := by
  intro p l e s m args below meth c D K ρ A H locs ls hX hK hA hl hP hD hS
  exact vk_getf hX.1 hX.2.1 (hA.2.1.1 0 (by decide)).2.1 hS (hcls ▸ hX.2.2.2.2.2.1) (hX.2.2.2.2.2.2 _ (am_in9 62 rfl rfl)) (fun _ h => h) hd (k p l e s m args below meth c D K ρ A H locs ls hX hK hA hl hP hD hS)
theorem am_scom (hcls : y.1.cls = "java/lang/String") (hd : decode y.2.1 pc = .ok (.getstatic 38, 3)) (k : am_T sd y d Q (pc + 3) L (.int 1 :: stk) σ) : am_T sd y d Q pc L stk σ := by
  intro p l e s m args below meth c D K ρ A H locs ls hX hK hA hl hP hD hS
  exact va_gets hX.1 hX.2.1 hA.2.2.2.1 hS (hcls ▸ hX.2.2.2.2.2.1) (hX.2.2.2.2.2.2 _ (am_in6 118 rfl rfl)) (fun _ h => h) hd (k p l e s m args below meth c D K ρ A H locs ls hX hK hA hl hP hD hS)
theorem am_sfor (hcls : y.1.cls = "java/lang/String") (hd : decode y.2.1 pc = .ok (.getstatic 1053, 3)) (k : ∀ v : Value, v.category = 1 → am_T sd y d Q (pc + 3) L (v :: stk) σ) : am_T sd y d Q pc L stk σ := by
  intro p l e s m args below meth c D K ρ A H locs ls hX hK hA hl hP hD hS
  rcases hA.2.2.2.2 with z | z
  · exact va_gets hX.1 hX.2.1 z hS (hcls ▸ hX.2.2.2.2.2.1) (hX.2.2.2.2.2.2 _ (am_in6 134 rfl rfl)) (fun _ h => h) hd (k .null rfl p l e s m args below meth c D K ρ A H locs ls hX hK hA hl hP hD hS)
  · exact va_gets hX.1 hX.2.1 z hS (hcls ▸ hX.2.2.2.2.2.1) (hX.2.2.2.2.2.2 _ (am_in6 134 rfl rfl)) (fun _ h => h) hd (k (.ref 2002) rfl p l e s m args below meth c D K ρ A H locs ls hX hK hA hl hP hD hS)
theorem am_slen (hd : decode y.2.1 pc = .ok (.arraylength, 1)) (k : am_T sd y d Q (pc + 1) L (.int 35 :: stk) σ) : am_T sd y d Q pc L (.ref 2001 :: stk) σ := by
  intro p l e s m args below meth c D K ρ A H locs ls hX hK hA hl hP hD hS
  exact va_tlen (v := 35) hX.1 hX.2.1 (hA.2.1.1 0 (by decide)).2.2.2 hS rfl hd (k p l e s m args below meth c D K ρ A H locs ls hX hK hA hl hP hD hS)
theorem am_sbal {i : Nat} (hi : i < 35) (hd : decode y.2.1 pc = .ok (.baload, 1)) (k : am_T sd y d Q (pc + 1) L (.int (am_tx.getD i 0) :: stk) σ) : am_T sd y d Q pc L (.int (nI i) :: .ref 2001 :: stk) σ := by
  intro p l e s m args below meth c D K ρ A H locs ls hX hK hA hl hP hD hS
  exact va_tb (v := .int (am_tx.getD i 0)) hX.1 hX.2.1 (hA.2.1.1 0 (by decide)).2.2.2 hS (vp_in_nI hi (by decide)) (by rw [nI_clamp (show i < 2 ^ 31 by omega)]; rfl) hd (k p l e s m args below meth c D K ρ A H locs ls hX hK hA hl hP hD hS)
theorem am_i2c {x v : Int32} (hd : decode y.2.1 pc = .ok (.i2c, 1)) (hv : (x.toUInt32 % 65536).toInt32 = v) (k : am_T sd y d Q (pc + 1) L (.int v :: stk) σ) : am_T sd y d Q pc L (.int x :: stk) σ := by
  intro p l e s m args below meth c D K ρ A H locs ls hX hK hA hl hP hD hS
  exact lv_i2c hX.1 hX.2.1 hd hv (k p l e s m args below meth c D K ρ A H locs ls hX hK hA hl hP hD hS)
theorem am_callVs {y' : am_Y} {idx n : Nat} {as rest stk : List Value} {Q' : Option Value → am_St → Prop} (hd : decode y.2.1 pc = .ok (.invokevirtual idx, 3)) (hw : am_mV y.1.cls idx y' n) (hcl : y'.1.cls = "java/lang/String") (hn : as.length = n) (hst : stk = as.reverse ++ .ref 2000 :: rest) (hr : (rest.map fun v => v.category).sum ≤ 8) (hC : am_C sd y' d (.ref 2000 :: as) σ Q') (k : ∀ (r : Option Value) (σ' : am_St), Q' r σ' → am_T sd y (d + 1) Q (pc + 3) L (r.toList ++ rest) σ') : am_T sd y (d + 1) Q pc L stk σ := by
  subst hst
  intro p l e s m args below meth c D K ρ A H locs ls hX hK hA hl hP hD hS
  obtain ⟨w1, w2, w3, w4, w5, w6, w7, w8, w9⟩ := hw
  have hG : GoodIn am_tbl (wsV y.1.cls idx y'.1.cls y'.1 (Cond.code y'.1 y'.2.1 y'.2.2.1 y'.2.2.2 :: am_tbl)) := by
    intro w hw
    refine am_good ?_
    unfold wsV at hw
    simp only [List.cons_append, List.nil_append, List.mem_cons] at hw
    rcases hw with rfl | rfl | rfl | rfl | rfl | hw
    · exact w1
    · exact w2
    · exact w3
    · exact w4
    · exact w5
    · exact hw
  have hrecv := vk_recv (i := 0) hA.2.1 (by decide) hS
  rw [← hcl] at hrecv
  have run := va_runV (e := e) (below := below) (meth := meth) (locs := locs) (b := ρ 2000) (As := as.map (am_v ρ)) (rest := rest.map (am_v ρ)) (C := y'.1.cls) (cells := 0) (slots := 0) (R := am_room (d + 1)) (g := F0 m pc ls (List.map (am_v ρ) (as.reverse ++ .ref 2000 :: rest))) ⟨hX.1, hX.2.1, hX.2.2.1, hX.2.2.2.2.2.1, hX.2.2.2.2.2.2⟩ (hC l D K ρ H.size) (cwV n hX.2.2.2.2.2.2 hG rfl rfl rfl ⟨rfl, w6, w7, w8⟩ ⟨Nat.le_refl _, by show 8 + (y'.2.2.1 + 11) + 40 * d ≤ 40 * (d + 1); omega⟩)
    ⟨am_blind, hrecv, fun U hU hW => ⟨rfl, by rw [hU], by rw [hU]; exact hA.2.warm hW hS.2.1 (am_freeA hD hS hA.1), by rw [hU]; exact hP, va_K.moved hW.alike hK, hD.weaken (fun _ _ _ _ => trivial)⟩⟩ rfl (by rw [List.length_map]; exact hn) hl.1 (by simp [am_v]) (lv_room (by rw [List.map_map]; have : ((fun v => v.category) ∘ am_v ρ) = fun v => v.category := funext (fun v => am_v_cat ρ v); rw [this]; exact hr)) hd ⟨Nat.le_refl _, Nat.le_refl _⟩
  exact am_back hX hK hA hl hD hS run k
end STRROWS
/-- the text's sign at k -/
def am_ch (k : Nat) : Int32 := am_tx.getD k 0
theorem am_ch_ok : ∀ k, k < 35 → ((am_ch k &&& 255).toUInt32 % 65536).toInt32 = am_ch k ∧ narrow .char (.int (am_ch k)) = .int (am_ch k) := by decide +kernel
section STRS
variable {sd : Bool} {d : Nat} {σ : am_St}
theorem sp_98_coder : am_C sd ya_98_coder d [.ref 2000] σ (fun r τ => τ = σ ∧ r = some (.int 0)) := by
  refine am_enter (by decide) (by simp [Value.category]) (Nat.le_of_ble_eq_true rfl) ?_
  exact am_scom rfl (am_dec td_98_coder 0 rfl) (am_if_eq (tgt := 13) (am_dec td_98_coder 1 rfl) (by decide) (fun z => absurd z (by decide)) (fun _ => am_aload_n (am_dec td_98_coder 2 rfl) rfl rfl (am_scod rfl (am_dec td_98_coder 3 rfl) (am_goto (tgt := 14) (am_dec td_98_coder 4 rfl) (by decide) (am_iret (am_dec td_98_coder 5 rfl) rfl rfl ⟨rfl, rfl⟩)))))
theorem sp_98_isLatin1 : am_C sd ya_98_isLatin1 d [.ref 2000] σ (fun r τ => τ = σ ∧ r = some (.int 1)) := by
  refine am_enter (by decide) (by simp [Value.category]) (Nat.le_of_ble_eq_true rfl) ?_
  exact am_scom rfl (am_dec td_98_isLatin1 0 rfl) (am_if_eq (tgt := 17) (am_dec td_98_isLatin1 1 rfl) (by decide) (fun z => absurd z (by decide)) (fun _ => am_aload_n (am_dec td_98_isLatin1 2 rfl) rfl rfl (am_scod rfl (am_dec td_98_isLatin1 3 rfl) (am_if_ne (tgt := 17) (am_dec td_98_isLatin1 4 rfl) (by decide) (fun z => absurd rfl z) (fun _ => am_iconst (v := 1) (am_dec td_98_isLatin1 5 rfl) (by decide) (am_goto (tgt := 18) (am_dec td_98_isLatin1 6 rfl) (by decide) (am_iret (am_dec td_98_isLatin1 7 rfl) rfl rfl ⟨rfl, rfl⟩)))))))
theorem sp_98_length : am_C sd ya_98_length (d + 1) [.ref 2000] σ (fun r τ => τ = σ ∧ r = some (.int 35)) := by
  refine am_enter (by decide) (by simp [Value.category]) (Nat.le_of_ble_eq_true rfl) ?_
  refine am_aload_n (am_dec td_98_length 0 rfl) rfl rfl (am_sval rfl (am_dec td_98_length 1 rfl) (am_slen (am_dec td_98_length 2 rfl) (am_aload_n (am_dec td_98_length 3 rfl) rfl rfl (am_callVs (as := []) (rest := [.int 35]) (am_dec td_98_length 4 rfl) mw_98_coder rfl rfl rfl (by decide) sp_98_coder (fun r τ hr => ?_)))))
  obtain ⟨rfl, rfl⟩ := hr
  exact am_ishr (am_dec td_98_length 5 rfl) (am_iret (am_dec td_98_length 6 rfl) rfl rfl ⟨rfl, by decide⟩)
theorem sp_98_pci {k : Nat} (hk : k < 35) (v : Value) (hv : v.category = 1) : am_C sd ya_98_pci d [.int (nI k), .int 35, v] σ (fun r τ => τ = σ ∧ r = some (.int (nI k))) := by
  refine am_enter (by decide) (by intro w hw; simp at hw; rcases hw with rfl | rfl | rfl; rfl; rfl; exact hv) (Nat.le_of_ble_eq_true rfl) ?_
  exact am_iload_n (am_dec td_98_pci 0 rfl) rfl rfl (am_if_lt (tgt := 9) (am_dec td_98_pci 1 rfl) (by decide) (fun z => absurd z (nI_pos (by omega))) (fun _ => am_iload_n (am_dec td_98_pci 2 rfl) rfl rfl (am_iload_n (am_dec td_98_pci 3 rfl) rfl rfl (am_icmp_lt (tgt := 16) (am_dec td_98_pci 4 rfl) (by decide) (fun _ => am_iload_n (am_dec td_98_pci 5 rfl) rfl rfl (am_iret (am_dec td_98_pci 6 rfl) rfl rfl ⟨rfl, rfl⟩)) (fun z => absurd (show nI k < nI 35 from nI_lt hk (by decide)) z)))))
theorem sp_98_sci {k : Nat} (hk : k < 35) : am_C sd ya_98_sci (d + 1) [.int (nI k), .int 35] σ (fun r τ => τ = σ ∧ r = none) := by
  refine am_enter (by decide) (by simp [Value.category]) (Nat.le_of_ble_eq_true rfl) ?_
  refine am_iload_n (am_dec td_98_sci 0 rfl) rfl rfl (am_iload_n (am_dec td_98_sci 1 rfl) rfl rfl (am_sfor rfl (am_dec td_98_sci 2 rfl) (fun v hv => am_callS (as := [.int (nI k), .int 35, v]) (rest := []) (am_dec td_98_sci 3 rfl) mw_98_pci rfl rfl (by decide) (sp_98_pci hk v hv) (fun r τ hr => ?_))))
  obtain ⟨rfl, rfl⟩ := hr
  exact am_pop (am_dec td_98_sci 4 rfl) rfl (am_ret (am_dec td_98_sci 5 rfl) rfl ⟨rfl, rfl⟩)
theorem sp_98_lca {k : Nat} (hk : k < 35) : am_C sd ya_98_lca (d + 2) [.ref 2001, .int (nI k)] σ (fun r τ => τ = σ ∧ r = some (.int (am_ch k))) := by
  refine am_enter (by decide) (by simp [Value.category]) (Nat.le_of_ble_eq_true rfl) ?_
  refine am_iload_n (am_dec td_98_lca 0 rfl) rfl rfl (am_aload_n (am_dec td_98_lca 1 rfl) rfl rfl (am_slen (am_dec td_98_lca 2 rfl) (am_callS (as := [.int (nI k), .int 35]) (rest := []) (am_dec td_98_lca 3 rfl) mw_98_sci rfl rfl (by decide) (sp_98_sci hk) (fun r τ hr => ?_))))
  obtain ⟨rfl, rfl⟩ := hr
  obtain ⟨h1, h2⟩ := am_ch_ok k hk
  exact am_aload_n (am_dec td_98_lca 4 rfl) rfl rfl (am_iload_n (am_dec td_98_lca 5 rfl) rfl rfl (am_sbal hk (am_dec td_98_lca 6 rfl) (am_sipush (v := 255) (am_dec td_98_lca 7 rfl) (by decide) (am_iand (am_dec td_98_lca 8 rfl) (am_i2c (am_dec td_98_lca 9 rfl) h1 (am_iret (am_dec td_98_lca 10 rfl) rfl h2 ⟨rfl, rfl⟩))))))
theorem sp_98_charAt {k : Nat} (hk : k < 35) : am_C sd ya_98_charAt (d + 3) [.ref 2000, .int (nI k)] σ (fun r τ => τ = σ ∧ r = some (.int (am_ch k))) := by
  refine am_enter (by decide) (by simp [Value.category]) (Nat.le_of_ble_eq_true rfl) ?_
  refine am_aload_n (am_dec td_98_charAt 0 rfl) rfl rfl (am_callVs (as := []) (rest := []) (am_dec td_98_charAt 1 rfl) mw_98_isLatin1 rfl rfl rfl (by decide) sp_98_isLatin1 (fun r τ hr => ?_))
  obtain ⟨rfl, rfl⟩ := hr
  refine am_if_eq (tgt := 16) (am_dec td_98_charAt 2 rfl) (by decide) (fun z => absurd z (by decide)) (fun _ => am_aload_n (am_dec td_98_charAt 3 rfl) rfl rfl (am_sval rfl (am_dec td_98_charAt 4 rfl) (am_iload_n (am_dec td_98_charAt 5 rfl) rfl rfl (am_callS (as := [.ref 2001, .int (nI k)]) (rest := []) (am_dec td_98_charAt 6 rfl) mw_98_lca rfl rfl (by decide) (sp_98_lca hk) (fun r τ hr => ?_)))))
  obtain ⟨rfl, rfl⟩ := hr
  exact am_iret (am_dec td_98_charAt 7 rfl) rfl (am_ch_ok k hk).2 ⟨rfl, rfl⟩
end STRS
