/-! the constructors, PRINTED by gen6.py -/
theorem ab_eq {sd : Bool} {y : am_Y} {d mc ms : Nat} {I0 I1 : List Nat} {J1 : List (Nat × Nat)} {Q : am_St → Prop} {pc : Nat} {L : List (Option Value)} {stk : List Value} {σ : am_St} {J J' : List (Nat × Nat)} {I I' : List Nat} {n ns : Nat} (hJ : J = J') (hI : I = I') (k : am_B sd y d mc ms I0 J1 I1 Q pc L stk σ J' I' n ns) : am_B sd y d mc ms I0 J1 I1 Q pc L stk σ J I n ns := by
  subst hJ; subst hI; exact k
def si_C : am_St := (fun _ _ => 0, fun _ _ _ => 0, fun _ => 0, fun o k => if o = 6 then (if k = 3 then 10 else 11) else (if k = 3 then 12 else 13))
theorem am_I_si (o k : Nat) : am_I si_C o k = 0 := rfl
def tb_0_init : List (Nat × Instr × Nat) := [(0, .aload_n 0, 1), (1, .invokespecial 3, 3), (4, .aload_n 0, 1), (5, .sipush 200, 3), (8, .newarray .int, 2), (10, .putfield 9, 3), (13, .aload_n 0, 1), (14, .sipush 200, 3), (17, .newarray .int, 2), (19, .putfield 15, 3), (22, .aload_n 0, 1), (23, .sipush 200, 3), (26, .newarray .int, 2), (28, .putfield 18, 3), (31, .aload_n 0, 1), (32, .sipush 300, 3), (35, .newarray .int, 2), (37, .putfield 21, 3), (40, .aload_n 0, 1), (41, .bipush 120, 2), (43, .newarray .int, 2), (45, .putfield 24, 3), (48, .aload_n 0, 1), (49, .aload_n 1, 1), (50, .putfield 27, 3), (53, .return_, 1)]
theorem td_0_init : am_all ya_0_init.2.1 tb_0_init = true := by decide +kernel
def tb_1_init : List (Nat × Instr × Nat) := [(0, .aload_n 0, 1), (1, .invokespecial 3, 3), (4, .aload_n 0, 1), (5, .new 9, 3), (8, .dup, 1), (9, .invokespecial 11, 3), (12, .putfield 12, 3), (15, .aload_n 0, 1), (16, .new 18, 3), (19, .dup, 1), (20, .invokespecial 20, 3), (23, .putfield 21, 3), (26, .aload_n 0, 1), (27, .new 18, 3), (30, .dup, 1), (31, .invokespecial 20, 3), (34, .putfield 25, 3), (37, .aload_n 0, 1), (38, .sipush 600, 3), (41, .newarray .boolean, 2), (43, .putfield 28, 3), (46, .aload_n 0, 1), (47, .aload_n 1, 1), (48, .putfield 32, 3), (51, .aload_n 0, 1), (52, .aload_n 2, 1), (53, .putfield 36, 3), (56, .return_, 1)]
theorem td_1_init : am_all ya_1_init.2.1 tb_1_init = true := by decide +kernel
def tb_2_init : List (Nat × Instr × Nat) := [(0, .aload_n 0, 1), (1, .invokespecial 3, 3), (4, .aload_n 0, 1), (5, .iconst 3, 1), (6, .newarray .int, 2), (8, .putfield 9, 3), (11, .aload_n 0, 1), (12, .iconst 3, 1), (13, .newarray .int, 2), (15, .putfield 15, 3), (18, .aload_n 0, 1), (19, .sipush 576, 3), (22, .newarray .int, 2), (24, .putfield 18, 3), (27, .aload_n 0, 1), (28, .sipush 144, 3), (31, .newarray .int, 2), (33, .putfield 21, 3), (36, .aload_n 0, 1), (37, .bipush 32, 2), (39, .newarray .int, 2), (41, .putfield 24, 3), (44, .aload_n 0, 1), (45, .bipush 32, 2), (47, .newarray .int, 2), (49, .putfield 27, 3), (52, .aload_n 0, 1), (53, .bipush 96, 2), (55, .newarray .int, 2), (57, .putfield 30, 3), (60, .aload_n 0, 1), (61, .bipush 24, 2), (63, .newarray .boolean, 2), (65, .putfield 33, 3), (68, .return_, 1)]
theorem td_2_init : am_all ya_2_init.2.1 tb_2_init = true := by decide +kernel
def tb_3_init : List (Nat × Instr × Nat) := [(0, .aload_n 0, 1), (1, .invokespecial 3, 3), (4, .aload_n 0, 1), (5, .sipush 600, 3), (8, .newarray .boolean, 2), (10, .putfield 9, 3), (13, .aload_n 0, 1), (14, .sipush 600, 3), (17, .newarray .boolean, 2), (19, .putfield 15, 3), (22, .aload_n 0, 1), (23, .aload_n 1, 1), (24, .putfield 18, 3), (27, .return_, 1)]
theorem td_3_init : am_all ya_3_init.2.1 tb_3_init = true := by decide +kernel
def tb_4_init : List (Nat × Instr × Nat) := [(0, .aload_n 0, 1), (1, .invokespecial 3, 3), (4, .aload_n 0, 1), (5, .new 9, 3), (8, .dup, 1), (9, .invokespecial 11, 3), (12, .putfield 12, 3), (15, .aload_n 0, 1), (16, .iconst 4, 1), (17, .newarray .int, 2), (19, .putfield 18, 3), (22, .aload_n 0, 1), (23, .aload_n 1, 1), (24, .putfield 22, 3), (27, .return_, 1)]
theorem td_4_init : am_all ya_4_init.2.1 tb_4_init = true := by decide +kernel
def tb_5_init : List (Nat × Instr × Nat) := [(0, .aload_n 0, 1), (1, .invokespecial 3, 3), (4, .aload_n 0, 1), (5, .sipush 200, 3), (8, .newarray .int, 2), (10, .putfield 9, 3), (13, .aload_n 0, 1), (14, .sipush 200, 3), (17, .newarray .int, 2), (19, .putfield 15, 3), (22, .aload_n 0, 1), (23, .sipush 300, 3), (26, .newarray .int, 2), (28, .putfield 18, 3), (31, .aload_n 0, 1), (32, .sipush 300, 3), (35, .newarray .int, 2), (37, .putfield 21, 3), (40, .aload_n 0, 1), (41, .sipush 600, 3), (44, .newarray .int, 2), (46, .putfield 24, 3), (49, .aload_n 0, 1), (50, .sipush 200, 3), (53, .newarray .int, 2), (55, .putfield 27, 3), (58, .aload_n 0, 1), (59, .sipush 300, 3), (62, .newarray .int, 2), (64, .putfield 30, 3), (67, .aload_n 0, 1), (68, .sipush 200, 3), (71, .newarray .int, 2), (73, .putfield 33, 3), (76, .aload_n 0, 1), (77, .sipush 300, 3), (80, .newarray .int, 2), (82, .putfield 36, 3), (85, .aload_n 0, 1), (86, .sipush 200, 3), (89, .newarray .int, 2), (91, .putfield 39, 3), (94, .aload_n 0, 1), (95, .sipush 200, 3), (98, .newarray .int, 2), (100, .putfield 42, 3), (103, .return_, 1)]
theorem td_5_init : am_all ya_5_init.2.1 tb_5_init = true := by decide +kernel
def tb_6_init : List (Nat × Instr × Nat) := [(0, .aload_n 0, 1), (1, .invokespecial 3, 3), (4, .aload_n 0, 1), (5, .sipush 200, 3), (8, .newarray .int, 2), (10, .putfield 9, 3), (13, .aload_n 0, 1), (14, .sipush 3200, 3), (17, .newarray .int, 2), (19, .putfield 15, 3), (22, .aload_n 0, 1), (23, .sipush 200, 3), (26, .newarray .int, 2), (28, .putfield 18, 3), (31, .aload_n 0, 1), (32, .sipush 200, 3), (35, .newarray .int, 2), (37, .putfield 21, 3), (40, .aload_n 0, 1), (41, .sipush 600, 3), (44, .newarray .int, 2), (46, .putfield 24, 3), (49, .aload_n 0, 1), (50, .aload_n 1, 1), (51, .putfield 27, 3), (54, .return_, 1)]
theorem td_6_init : am_all ya_6_init.2.1 tb_6_init = true := by decide +kernel
def tb_7_init : List (Nat × Instr × Nat) := [(0, .aload_n 0, 1), (1, .invokespecial 3, 3), (4, .aload_n 0, 1), (5, .sipush 901, 3), (8, .newarray .int, 2), (10, .putfield 9, 3), (13, .aload_n 0, 1), (14, .sipush 901, 3), (17, .newarray .int, 2), (19, .putfield 15, 3), (22, .aload_n 0, 1), (23, .sipush 901, 3), (26, .newarray .int, 2), (28, .putfield 18, 3), (31, .aload_n 0, 1), (32, .sipush 901, 3), (35, .newarray .int, 2), (37, .putfield 21, 3), (40, .return_, 1)]
theorem td_7_init : am_all ya_7_init.2.1 tb_7_init = true := by decide +kernel
def tb_8_init : List (Nat × Instr × Nat) := [(0, .aload_n 0, 1), (1, .invokespecial 3, 3), (4, .aload_n 0, 1), (5, .sipush 400, 3), (8, .newarray .int, 2), (10, .putfield 9, 3), (13, .aload_n 0, 1), (14, .sipush 400, 3), (17, .newarray .int, 2), (19, .putfield 15, 3), (22, .aload_n 0, 1), (23, .sipush 400, 3), (26, .newarray .int, 2), (28, .putfield 18, 3), (31, .aload_n 0, 1), (32, .sipush 400, 3), (35, .newarray .int, 2), (37, .putfield 21, 3), (40, .aload_n 0, 1), (41, .sipush 400, 3), (44, .newarray .int, 2), (46, .putfield 24, 3), (49, .aload_n 0, 1), (50, .sipush 400, 3), (53, .newarray .int, 2), (55, .putfield 27, 3), (58, .aload_n 0, 1), (59, .sipush 400, 3), (62, .newarray .int, 2), (64, .putfield 30, 3), (67, .return_, 1)]
theorem td_8_init : am_all ya_8_init.2.1 tb_8_init = true := by decide +kernel
def tb_9_init : List (Nat × Instr × Nat) := [(0, .aload_n 0, 1), (1, .invokespecial 3, 3), (4, .aload_n 0, 1), (5, .iconst 3, 1), (6, .newarray .int, 2), (8, .putfield 9, 3), (11, .aload_n 0, 1), (12, .iconst 3, 1), (13, .newarray .int, 2), (15, .putfield 15, 3), (18, .aload_n 0, 1), (19, .sipush 1800, 3), (22, .newarray .int, 2), (24, .putfield 18, 3), (27, .aload_n 0, 1), (28, .sipush 600, 3), (31, .newarray .int, 2), (33, .putfield 21, 3), (36, .aload_n 0, 1), (37, .sipush 600, 3), (40, .newarray .int, 2), (42, .putfield 24, 3), (45, .aload_n 0, 1), (46, .sipush 4800, 3), (49, .newarray .int, 2), (51, .putfield 27, 3), (54, .aload_n 0, 1), (55, .iconst 3, 1), (56, .newarray .int, 2), (58, .putfield 30, 3), (61, .aload_n 0, 1), (62, .sipush 600, 3), (65, .newarray .int, 2), (67, .putfield 33, 3), (70, .aload_n 0, 1), (71, .sipush 600, 3), (74, .newarray .int, 2), (76, .putfield 36, 3), (79, .aload_n 0, 1), (80, .sipush 4800, 3), (83, .newarray .int, 2), (85, .putfield 39, 3), (88, .return_, 1)]
theorem td_9_init : am_all ya_9_init.2.1 tb_9_init = true := by decide +kernel
def tb_10_init : List (Nat × Instr × Nat) := [(0, .aload_n 0, 1), (1, .invokespecial 3, 3), (4, .aload_n 0, 1), (5, .sipush 900, 3), (8, .newarray .byte, 2), (10, .putfield 9, 3), (13, .aload_n 0, 1), (14, .iconst 0, 1), (15, .putfield 13, 3), (18, .aload_n 0, 1), (19, .new 17, 3), (22, .dup, 1), (23, .invokespecial 19, 3), (26, .putfield 20, 3), (29, .aload_n 0, 1), (30, .new 24, 3), (33, .dup, 1), (34, .aload_n 0, 1), (35, .getfield 20, 3), (38, .invokespecial 26, 3), (41, .putfield 29, 3), (44, .aload_n 0, 1), (45, .iconst 0, 1), (46, .putfield 33, 3), (49, .aload_n 0, 1), (50, .iconst (-1), 1), (51, .putfield 36, 3), (54, .aload_n 0, 1), (55, .new 39, 3), (58, .dup, 1), (59, .invokespecial 41, 3), (62, .putfield 42, 3), (65, .aload_n 0, 1), (66, .new 46, 3), (69, .dup, 1), (70, .aload_n 0, 1), (71, .getfield 42, 3), (74, .invokespecial 48, 3), (77, .putfield 51, 3), (80, .aload_n 0, 1), (81, .new 55, 3), (84, .dup, 1), (85, .aload_n 0, 1), (86, .getfield 42, 3), (89, .aload_n 0, 1), (90, .getfield 51, 3), (93, .invokespecial 57, 3), (96, .putfield 60, 3), (99, .aload_n 0, 1), (100, .new 55, 3), (103, .dup, 1), (104, .aload_n 0, 1), (105, .getfield 42, 3), (108, .aload_n 0, 1), (109, .getfield 51, 3), (112, .invokespecial 57, 3), (115, .putfield 64, 3), (118, .aload_n 0, 1), (119, .new 67, 3), (122, .dup, 1), (123, .aload_n 0, 1), (124, .getfield 42, 3), (127, .invokespecial 69, 3), (130, .putfield 70, 3), (133, .aload_n 0, 1), (134, .new 74, 3), (137, .dup, 1), (138, .aload_n 0, 1), (139, .getfield 42, 3), (142, .invokespecial 76, 3), (145, .putfield 77, 3), (148, .aload_n 0, 1), (149, .sipush 272, 3), (152, .newarray .int, 2), (154, .putfield 81, 3), (157, .aload_n 0, 1), (158, .bipush 68, 2), (160, .newarray .boolean, 2), (162, .putfield 85, 3), (165, .aload_n 0, 1), (166, .getfield 20, 3), (169, .invokevirtual 89, 3), (172, .aload_n 0, 1), (173, .invokevirtual 92, 3), (176, .return_, 1)]
theorem td_10_init : am_all ya_10_init.2.1 tb_10_init = true := by decide +kernel
def tb_11_init : List (Nat × Instr × Nat) := [(0, .aload_n 0, 1), (1, .invokespecial 1, 3), (4, .aload_n 0, 1), (5, .sipush 900, 3), (8, .newarray .int, 2), (10, .putfield 7, 3), (13, .aload_n 0, 1), (14, .sipush 1300, 3), (17, .newarray .int, 2), (19, .putfield 13, 3), (22, .aload_n 0, 1), (23, .sipush 1300, 3), (26, .newarray .int, 2), (28, .putfield 16, 3), (31, .aload_n 0, 1), (32, .iconst 3, 1), (33, .newarray .int, 2), (35, .putfield 19, 3), (38, .aload_n 0, 1), (39, .iconst (-1), 1), (40, .putfield 22, 3), (43, .aload_n 0, 1), (44, .sipush 600, 3), (47, .newarray .int, 2), (49, .putfield 26, 3), (52, .aload_n 0, 1), (53, .sipush 600, 3), (56, .newarray .boolean, 2), (58, .putfield 29, 3), (61, .aload_n 0, 1), (62, .sipush 600, 3), (65, .newarray .boolean, 2), (67, .putfield 33, 3), (70, .aload_n 0, 1), (71, .sipush 600, 3), (74, .newarray .boolean, 2), (76, .putfield 36, 3), (79, .aload_n 0, 1), (80, .sipush 600, 3), (83, .newarray .boolean, 2), (85, .putfield 39, 3), (88, .aload_n 0, 1), (89, .sipush 4800, 3), (92, .newarray .int, 2), (94, .putfield 42, 3), (97, .aload_n 0, 1), (98, .iconst 3, 1), (99, .newarray .int, 2), (101, .putfield 45, 3), (104, .aload_n 0, 1), (105, .sipush 3414, 3), (108, .newarray .int, 2), (110, .putfield 48, 3), (113, .aload_n 0, 1), (114, .sipush 3414, 3), (117, .newarray .int, 2), (119, .putfield 51, 3), (122, .aload_n 0, 1), (123, .sipush 600, 3), (126, .newarray .int, 2), (128, .putfield 54, 3), (131, .aload_n 0, 1), (132, .iconst (-1), 1), (133, .putfield 57, 3), (136, .aload_n 0, 1), (137, .sipush 200, 3), (140, .newarray .int, 2), (142, .putfield 60, 3), (145, .aload_n 0, 1), (146, .sipush 2412, 3), (149, .newarray .int, 2), (151, .putfield 63, 3), (154, .aload_n 0, 1), (155, .sipush 200, 3), (158, .newarray .int, 2), (160, .putfield 66, 3), (163, .aload_n 0, 1), (164, .sipush 200, 3), (167, .newarray .int, 2), (169, .putfield 69, 3), (172, .aload_n 0, 1), (173, .sipush 200, 3), (176, .newarray .int, 2), (178, .putfield 72, 3), (181, .aload_n 0, 1), (182, .sipush 3232, 3), (185, .newarray .int, 2), (187, .putfield 75, 3), (190, .aload_n 0, 1), (191, .sipush 202, 3), (194, .newarray .int, 2), (196, .putfield 78, 3), (199, .aload_n 0, 1), (200, .sipush 202, 3), (203, .newarray .int, 2), (205, .putfield 81, 3), (208, .aload_n 0, 1), (209, .sipush 202, 3), (212, .newarray .int, 2), (214, .putfield 84, 3), (217, .aload_n 0, 1), (218, .bipush 17, 2), (220, .newarray .int, 2), (222, .putfield 87, 3), (225, .aload_n 0, 1), (226, .sipush 202, 3), (229, .newarray .boolean, 2), (231, .putfield 90, 3), (234, .aload_n 0, 1), (235, .sipush 600, 3), (238, .newarray .boolean, 2), (240, .putfield 93, 3), (243, .aload_n 0, 1), (244, .sipush 600, 3), (247, .newarray .boolean, 2), (249, .putfield 96, 3), (252, .aload_n 0, 1), (253, .sipush 600, 3), (256, .newarray .boolean, 2), (258, .putfield 99, 3), (261, .aload_n 0, 1), (262, .iconst 0, 1), (263, .invokevirtual 102, 3), (266, .aload_n 0, 1), (267, .invokevirtual 106, 3), (270, .return_, 1)]
theorem td_11_init : am_all ya_11_init.2.1 tb_11_init = true := by decide +kernel
def bj_1 : List (Nat × Nat) := [(0, 0)]
def bj1_1 : List (Nat × Nat) := [(0, 0), (1, 8), (1, 9), (1, 10), (1, 11), (1, 12), (1, 13), (1, 14), (1, 15)]
def bi_1 : List Nat := [0, 1, 64]
def bi1_1 : List Nat := [0, 1, 64, 73, 74, 75, 76, 77, 78, 79, 80]
theorem cn_1 {d : Nat} {σ : am_St} (hz : σ = (am_sI si_C 0 1 0)) : am_D false ya_2_init (d + 1) 8 910 [.ref (am_oid 1)] σ bj_1 bi_1 bj1_1 bi1_1 (fun τ => τ = σ) := by
  subst hz
  refine am_Benter rfl rfl (by decide) (by decide) ?_
  refine ab_aload_n (i := 0) (x := am_oid 1) (am_dec td_2_init 0 rfl) rfl rfl ?_
  refine ab_obj (am_dec td_2_init 1 rfl) ⟨am_in1 38 rfl rfl, am_in1 31 rfl rfl, am_in1 32 rfl rfl⟩ (by decide) (by omega) ?_
  refine ab_aload_n (i := 0) (x := am_oid 1) (am_dec td_2_init 2 rfl) rfl rfl ?_
  refine ab_iconst (v := 3) (am_dec td_2_init 3 rfl) (by decide) ?_
  refine ab_newa (ci := 2) (o := 1) (k := 8) (t := 0) (N := 3) (i := am_aid 1 8) (am_dec td_2_init 4 rfl) rfl (am_in1 114 rfl rfl) rfl (by decide) rfl (by decide) (by decide) rfl rfl (by decide) (by decide +kernel) (by decide +kernel) (by decide +kernel) (by decide +kernel) (by decide +kernel) (by decide +kernel) (by decide +kernel) ?_
  refine ab_put (o := 1) (am_dec td_2_init 5 rfl) fl_2_9 rfl (by decide) rfl (by decide) rfl (by decide +kernel) ?_
  refine ab_aload_n (i := 0) (x := am_oid 1) (am_dec td_2_init 6 rfl) rfl rfl ?_
  refine ab_iconst (v := 3) (am_dec td_2_init 7 rfl) (by decide) ?_
  refine ab_newa (ci := 2) (o := 1) (k := 9) (t := 0) (N := 3) (i := am_aid 1 9) (am_dec td_2_init 8 rfl) rfl (am_in1 114 rfl rfl) rfl (by decide) rfl (by decide) (by decide) rfl rfl (by decide) (by decide +kernel) (by decide +kernel) (by decide +kernel) (by decide +kernel) (by decide +kernel) (by decide +kernel) (by decide +kernel) ?_
  refine ab_put (o := 1) (am_dec td_2_init 9 rfl) fl_2_15 rfl (by decide) rfl (by decide) rfl (by decide +kernel) ?_
  refine ab_aload_n (i := 0) (x := am_oid 1) (am_dec td_2_init 10 rfl) rfl rfl ?_
  refine ab_sipush (v := 576) (am_dec td_2_init 11 rfl) (by decide) ?_
  refine ab_newa (ci := 2) (o := 1) (k := 10) (t := 0) (N := 576) (i := am_aid 1 10) (am_dec td_2_init 12 rfl) rfl (am_in1 114 rfl rfl) rfl (by decide) rfl (by decide) (by decide) rfl rfl (by decide) (by decide +kernel) (by decide +kernel) (by decide +kernel) (by decide +kernel) (by decide +kernel) (by decide +kernel) (by decide +kernel) ?_
  refine ab_put (o := 1) (am_dec td_2_init 13 rfl) fl_2_18 rfl (by decide) rfl (by decide) rfl (by decide +kernel) ?_
  refine ab_aload_n (i := 0) (x := am_oid 1) (am_dec td_2_init 14 rfl) rfl rfl ?_
  refine ab_sipush (v := 144) (am_dec td_2_init 15 rfl) (by decide) ?_
  refine ab_newa (ci := 2) (o := 1) (k := 11) (t := 0) (N := 144) (i := am_aid 1 11) (am_dec td_2_init 16 rfl) rfl (am_in1 114 rfl rfl) rfl (by decide) rfl (by decide) (by decide) rfl rfl (by decide) (by decide +kernel) (by decide +kernel) (by decide +kernel) (by decide +kernel) (by decide +kernel) (by decide +kernel) (by decide +kernel) ?_
  refine ab_put (o := 1) (am_dec td_2_init 17 rfl) fl_2_21 rfl (by decide) rfl (by decide) rfl (by decide +kernel) ?_
  refine ab_aload_n (i := 0) (x := am_oid 1) (am_dec td_2_init 18 rfl) rfl rfl ?_
  refine ab_bipush (v := 32) (am_dec td_2_init 19 rfl) (by decide) ?_
  refine ab_newa (ci := 2) (o := 1) (k := 12) (t := 0) (N := 32) (i := am_aid 1 12) (am_dec td_2_init 20 rfl) rfl (am_in1 114 rfl rfl) rfl (by decide) rfl (by decide) (by decide) rfl rfl (by decide) (by decide +kernel) (by decide +kernel) (by decide +kernel) (by decide +kernel) (by decide +kernel) (by decide +kernel) (by decide +kernel) ?_
  refine ab_put (o := 1) (am_dec td_2_init 21 rfl) fl_2_24 rfl (by decide) rfl (by decide) rfl (by decide +kernel) ?_
  refine ab_aload_n (i := 0) (x := am_oid 1) (am_dec td_2_init 22 rfl) rfl rfl ?_
  refine ab_bipush (v := 32) (am_dec td_2_init 23 rfl) (by decide) ?_
  refine ab_newa (ci := 2) (o := 1) (k := 13) (t := 0) (N := 32) (i := am_aid 1 13) (am_dec td_2_init 24 rfl) rfl (am_in1 114 rfl rfl) rfl (by decide) rfl (by decide) (by decide) rfl rfl (by decide) (by decide +kernel) (by decide +kernel) (by decide +kernel) (by decide +kernel) (by decide +kernel) (by decide +kernel) (by decide +kernel) ?_
  refine ab_put (o := 1) (am_dec td_2_init 25 rfl) fl_2_27 rfl (by decide) rfl (by decide) rfl (by decide +kernel) ?_
  refine ab_aload_n (i := 0) (x := am_oid 1) (am_dec td_2_init 26 rfl) rfl rfl ?_
  refine ab_bipush (v := 96) (am_dec td_2_init 27 rfl) (by decide) ?_
  refine ab_newa (ci := 2) (o := 1) (k := 14) (t := 0) (N := 96) (i := am_aid 1 14) (am_dec td_2_init 28 rfl) rfl (am_in1 114 rfl rfl) rfl (by decide) rfl (by decide) (by decide) rfl rfl (by decide) (by decide +kernel) (by decide +kernel) (by decide +kernel) (by decide +kernel) (by decide +kernel) (by decide +kernel) (by decide +kernel) ?_
  refine ab_put (o := 1) (am_dec td_2_init 29 rfl) fl_2_30 rfl (by decide) rfl (by decide) rfl (by decide +kernel) ?_
  refine ab_aload_n (i := 0) (x := am_oid 1) (am_dec td_2_init 30 rfl) rfl rfl ?_
  refine ab_bipush (v := 24) (am_dec td_2_init 31 rfl) (by decide) ?_
  refine ab_newa (ci := 2) (o := 1) (k := 15) (t := 2) (N := 24) (i := am_aid 1 15) (am_dec td_2_init 32 rfl) rfl (am_in1 115 rfl rfl) rfl (by decide) rfl (by decide) (by decide) rfl rfl (by decide) (by decide +kernel) (by decide +kernel) (by decide +kernel) (by decide +kernel) (by decide +kernel) (by decide +kernel) (by decide +kernel) ?_
  refine ab_put (o := 1) (am_dec td_2_init 33 rfl) fl_2_33 rfl (by decide) rfl (by decide) rfl (by decide +kernel) ?_
  exact ab_ret (am_dec td_2_init 34 rfl) rfl (by decide +kernel) (by decide +kernel) (by decide +kernel) (by decide +kernel) rfl
def bj_3 : List (Nat × Nat) := [(0, 0), (1, 8), (1, 9), (1, 10), (1, 11), (1, 12), (1, 13), (1, 14), (1, 15), (0, 2)]
def bj1_3 : List (Nat × Nat) := [(0, 0), (1, 8), (1, 9), (1, 10), (1, 11), (1, 12), (1, 13), (1, 14), (1, 15), (0, 2), (3, 1), (3, 2), (3, 3), (3, 4)]
def bi_3 : List Nat := [0, 1, 64, 73, 74, 75, 76, 77, 78, 79, 80, 128, 192]
def bi1_3 : List Nat := [0, 1, 64, 73, 74, 75, 76, 77, 78, 79, 80, 128, 192, 194, 195, 196, 197]
theorem cn_3 {d : Nat} {σ : am_St} (hz : σ = (am_sI si_C 0 1 0)) : am_D false ya_7_init (d + 1) 4 3604 [.ref (am_oid 3)] σ bj_3 bi_3 bj1_3 bi1_3 (fun τ => τ = σ) := by
  subst hz
  refine am_Benter rfl rfl (by decide) (by decide) ?_
  refine ab_aload_n (i := 0) (x := am_oid 3) (am_dec td_7_init 0 rfl) rfl rfl ?_
  refine ab_obj (am_dec td_7_init 1 rfl) ⟨am_in1 127 rfl rfl, am_in1 31 rfl rfl, am_in1 32 rfl rfl⟩ (by decide) (by omega) ?_
  refine ab_aload_n (i := 0) (x := am_oid 3) (am_dec td_7_init 2 rfl) rfl rfl ?_
  refine ab_sipush (v := 901) (am_dec td_7_init 3 rfl) (by decide) ?_
  refine ab_newa (ci := 7) (o := 3) (k := 1) (t := 0) (N := 901) (i := am_aid 3 1) (am_dec td_7_init 4 rfl) rfl (am_in1 114 rfl rfl) rfl (by decide) rfl (by decide) (by decide) rfl rfl (by decide) (by decide +kernel) (by decide +kernel) (by decide +kernel) (by decide +kernel) (by decide +kernel) (by decide +kernel) (by decide +kernel) ?_
  refine ab_put (o := 3) (am_dec td_7_init 5 rfl) fl_7_9 rfl (by decide) rfl (by decide) rfl (by decide +kernel) ?_
  refine ab_aload_n (i := 0) (x := am_oid 3) (am_dec td_7_init 6 rfl) rfl rfl ?_
  refine ab_sipush (v := 901) (am_dec td_7_init 7 rfl) (by decide) ?_
  refine ab_newa (ci := 7) (o := 3) (k := 2) (t := 0) (N := 901) (i := am_aid 3 2) (am_dec td_7_init 8 rfl) rfl (am_in1 114 rfl rfl) rfl (by decide) rfl (by decide) (by decide) rfl rfl (by decide) (by decide +kernel) (by decide +kernel) (by decide +kernel) (by decide +kernel) (by decide +kernel) (by decide +kernel) (by decide +kernel) ?_
  refine ab_put (o := 3) (am_dec td_7_init 9 rfl) fl_7_15 rfl (by decide) rfl (by decide) rfl (by decide +kernel) ?_
  refine ab_aload_n (i := 0) (x := am_oid 3) (am_dec td_7_init 10 rfl) rfl rfl ?_
  refine ab_sipush (v := 901) (am_dec td_7_init 11 rfl) (by decide) ?_
  refine ab_newa (ci := 7) (o := 3) (k := 3) (t := 0) (N := 901) (i := am_aid 3 3) (am_dec td_7_init 12 rfl) rfl (am_in1 114 rfl rfl) rfl (by decide) rfl (by decide) (by decide) rfl rfl (by decide) (by decide +kernel) (by decide +kernel) (by decide +kernel) (by decide +kernel) (by decide +kernel) (by decide +kernel) (by decide +kernel) ?_
  refine ab_put (o := 3) (am_dec td_7_init 13 rfl) fl_7_18 rfl (by decide) rfl (by decide) rfl (by decide +kernel) ?_
  refine ab_aload_n (i := 0) (x := am_oid 3) (am_dec td_7_init 14 rfl) rfl rfl ?_
  refine ab_sipush (v := 901) (am_dec td_7_init 15 rfl) (by decide) ?_
  refine ab_newa (ci := 7) (o := 3) (k := 4) (t := 0) (N := 901) (i := am_aid 3 4) (am_dec td_7_init 16 rfl) rfl (am_in1 114 rfl rfl) rfl (by decide) rfl (by decide) (by decide) rfl rfl (by decide) (by decide +kernel) (by decide +kernel) (by decide +kernel) (by decide +kernel) (by decide +kernel) (by decide +kernel) (by decide +kernel) ?_
  refine ab_put (o := 3) (am_dec td_7_init 17 rfl) fl_7_21 rfl (by decide) rfl (by decide) rfl (by decide +kernel) ?_
  exact ab_ret (am_dec td_7_init 18 rfl) rfl (by decide +kernel) (by decide +kernel) (by decide +kernel) (by decide +kernel) rfl
def bj_2 : List (Nat × Nat) := [(0, 0), (1, 8), (1, 9), (1, 10), (1, 11), (1, 12), (1, 13), (1, 14), (1, 15), (0, 2)]
def bj1_2 : List (Nat × Nat) := [(0, 0), (1, 8), (1, 9), (1, 10), (1, 11), (1, 12), (1, 13), (1, 14), (1, 15), (0, 2), (3, 1), (3, 2), (3, 3), (3, 4), (2, 1), (2, 9), (2, 0)]
def bi_2 : List Nat := [0, 1, 64, 73, 74, 75, 76, 77, 78, 79, 80, 128]
def bi1_2 : List Nat := [0, 1, 64, 73, 74, 75, 76, 77, 78, 79, 80, 128, 192, 194, 195, 196, 197, 138]
theorem cn_2 {d : Nat} {σ : am_St} (hz : σ = (am_sI si_C 0 1 0)) : am_D false ya_4_init (d + 2) 6 3613 [.ref (am_oid 2), .ref (am_oid 1)] σ bj_2 bi_2 bj1_2 bi1_2 (fun τ => τ = σ) := by
  subst hz
  refine am_Benter rfl rfl (by decide) (by decide) ?_
  refine ab_aload_n (i := 0) (x := am_oid 2) (am_dec td_4_init 0 rfl) rfl rfl ?_
  refine ab_obj (am_dec td_4_init 1 rfl) ⟨am_in1 121 rfl rfl, am_in1 31 rfl rfl, am_in1 32 rfl rfl⟩ (by decide) (by omega) ?_
  refine ab_aload_n (i := 0) (x := am_oid 2) (am_dec td_4_init 2 rfl) rfl rfl ?_
  refine ab_new (o := 3) (ci := 7) (i := am_oid 3) (am_dec td_4_init 3 rfl) ⟨na_R7, na_F7, 5, rfl, am_in1 122 rfl rfl, am_in1 123 rfl rfl, am_in1 4 rfl rfl⟩ rfl (by decide) ⟨fun k => by simp [am_I_sI, am_I_si], rfl⟩ rfl (by decide) (by decide +kernel) (by decide +kernel) (by decide +kernel) (by decide +kernel) (by decide +kernel) (by decide +kernel) (by decide +kernel) (by decide +kernel) ?_
  refine ab_dup (am_dec td_4_init 4 rfl) ?_
  refine ab_eq (J' := bj_3) (I' := bi_3) (by decide +kernel) (by decide +kernel) ?_
  refine ab_call (x := am_oid 3) (as := []) (rest := [.ref (am_oid 3), .ref (am_oid 2)]) (am_dec td_4_init 5 rfl) ⟨Or.inr (fun U q => q.2.1), am_in1 125 rfl rfl, am_in1 4 rfl rfl, am_in1 126 rfl rfl, rfl, rfl, by decide, by decide, by decide +kernel, by decide⟩ rfl rfl (by decide) (cn_3 (d := d) rfl) (by decide +kernel) (by decide +kernel) (by decide +kernel) (by decide +kernel) (by decide +kernel) (fun τ hτ => ?_)
  subst hτ
  refine ab_put (o := 2) (am_dec td_4_init 6 rfl) fl_4_12 rfl (by decide) rfl (by decide) rfl (by decide +kernel) ?_
  refine ab_aload_n (i := 0) (x := am_oid 2) (am_dec td_4_init 7 rfl) rfl rfl ?_
  refine ab_iconst (v := 4) (am_dec td_4_init 8 rfl) (by decide) ?_
  refine ab_newa (ci := 4) (o := 2) (k := 9) (t := 0) (N := 4) (i := am_aid 2 9) (am_dec td_4_init 9 rfl) rfl (am_in1 114 rfl rfl) rfl (by decide) rfl (by decide) (by decide) rfl rfl (by decide) (by decide +kernel) (by decide +kernel) (by decide +kernel) (by decide +kernel) (by decide +kernel) (by decide +kernel) (by decide +kernel) ?_
  refine ab_put (o := 2) (am_dec td_4_init 10 rfl) fl_4_18 rfl (by decide) rfl (by decide) rfl (by decide +kernel) ?_
  refine ab_aload_n (i := 0) (x := am_oid 2) (am_dec td_4_init 11 rfl) rfl rfl ?_
  refine ab_aload_n (i := 1) (x := am_oid 1) (am_dec td_4_init 12 rfl) rfl rfl ?_
  refine ab_put (o := 2) (am_dec td_4_init 13 rfl) fl_4_22 rfl (by decide) rfl (by decide) rfl (by decide +kernel) ?_
  exact ab_ret (am_dec td_4_init 14 rfl) rfl (by decide +kernel) (by decide +kernel) (by decide +kernel) (by decide +kernel) rfl
def bj_4 : List (Nat × Nat) := [(0, 0), (1, 8), (1, 9), (1, 10), (1, 11), (1, 12), (1, 13), (1, 14), (1, 15), (0, 2), (3, 1), (3, 2), (3, 3), (3, 4), (2, 1), (2, 9), (2, 0), (0, 3)]
def bj1_4 : List (Nat × Nat) := [(0, 0), (1, 8), (1, 9), (1, 10), (1, 11), (1, 12), (1, 13), (1, 14), (1, 15), (0, 2), (3, 1), (3, 2), (3, 3), (3, 4), (2, 1), (2, 9), (2, 0), (0, 3), (4, 6), (4, 7), (4, 8), (4, 9), (4, 10), (4, 11), (4, 12), (4, 13), (4, 14), (4, 15)]
def bi_4 : List Nat := [0, 1, 64, 73, 74, 75, 76, 77, 78, 79, 80, 128, 192, 194, 195, 196, 197, 138, 256]
def bi1_4 : List Nat := [0, 1, 64, 73, 74, 75, 76, 77, 78, 79, 80, 128, 192, 194, 195, 196, 197, 138, 256, 263, 264, 265, 266, 267, 268, 269, 270, 271, 272]
theorem cn_4 {d : Nat} {σ : am_St} (hz : σ = (am_sI (am_sI (am_sI si_C 0 1 0) 0 4 0) 0 5 (-1))) : am_D false ya_9_init (d + 1) 10 13809 [.ref (am_oid 4)] σ bj_4 bi_4 bj1_4 bi1_4 (fun τ => τ = σ) := by
  subst hz
  refine am_Benter rfl rfl (by decide) (by decide) ?_
  refine ab_aload_n (i := 0) (x := am_oid 4) (am_dec td_9_init 0 rfl) rfl rfl ?_
  refine ab_obj (am_dec td_9_init 1 rfl) ⟨am_in1 193 rfl rfl, am_in1 31 rfl rfl, am_in1 32 rfl rfl⟩ (by decide) (by omega) ?_
  refine ab_aload_n (i := 0) (x := am_oid 4) (am_dec td_9_init 2 rfl) rfl rfl ?_
  refine ab_iconst (v := 3) (am_dec td_9_init 3 rfl) (by decide) ?_
  refine ab_newa (ci := 9) (o := 4) (k := 6) (t := 0) (N := 3) (i := am_aid 4 6) (am_dec td_9_init 4 rfl) rfl (am_in1 114 rfl rfl) rfl (by decide) rfl (by decide) (by decide) rfl rfl (by decide) (by decide +kernel) (by decide +kernel) (by decide +kernel) (by decide +kernel) (by decide +kernel) (by decide +kernel) (by decide +kernel) ?_
  refine ab_put (o := 4) (am_dec td_9_init 5 rfl) fl_9_9 rfl (by decide) rfl (by decide) rfl (by decide +kernel) ?_
  refine ab_aload_n (i := 0) (x := am_oid 4) (am_dec td_9_init 6 rfl) rfl rfl ?_
  refine ab_iconst (v := 3) (am_dec td_9_init 7 rfl) (by decide) ?_
  refine ab_newa (ci := 9) (o := 4) (k := 7) (t := 0) (N := 3) (i := am_aid 4 7) (am_dec td_9_init 8 rfl) rfl (am_in1 114 rfl rfl) rfl (by decide) rfl (by decide) (by decide) rfl rfl (by decide) (by decide +kernel) (by decide +kernel) (by decide +kernel) (by decide +kernel) (by decide +kernel) (by decide +kernel) (by decide +kernel) ?_
  refine ab_put (o := 4) (am_dec td_9_init 9 rfl) fl_9_15 rfl (by decide) rfl (by decide) rfl (by decide +kernel) ?_
  refine ab_aload_n (i := 0) (x := am_oid 4) (am_dec td_9_init 10 rfl) rfl rfl ?_
  refine ab_sipush (v := 1800) (am_dec td_9_init 11 rfl) (by decide) ?_
  refine ab_newa (ci := 9) (o := 4) (k := 8) (t := 0) (N := 1800) (i := am_aid 4 8) (am_dec td_9_init 12 rfl) rfl (am_in1 114 rfl rfl) rfl (by decide) rfl (by decide) (by decide) rfl rfl (by decide) (by decide +kernel) (by decide +kernel) (by decide +kernel) (by decide +kernel) (by decide +kernel) (by decide +kernel) (by decide +kernel) ?_
  refine ab_put (o := 4) (am_dec td_9_init 13 rfl) fl_9_18 rfl (by decide) rfl (by decide) rfl (by decide +kernel) ?_
  refine ab_aload_n (i := 0) (x := am_oid 4) (am_dec td_9_init 14 rfl) rfl rfl ?_
  refine ab_sipush (v := 600) (am_dec td_9_init 15 rfl) (by decide) ?_
  refine ab_newa (ci := 9) (o := 4) (k := 9) (t := 0) (N := 600) (i := am_aid 4 9) (am_dec td_9_init 16 rfl) rfl (am_in1 114 rfl rfl) rfl (by decide) rfl (by decide) (by decide) rfl rfl (by decide) (by decide +kernel) (by decide +kernel) (by decide +kernel) (by decide +kernel) (by decide +kernel) (by decide +kernel) (by decide +kernel) ?_
  refine ab_put (o := 4) (am_dec td_9_init 17 rfl) fl_9_21 rfl (by decide) rfl (by decide) rfl (by decide +kernel) ?_
  refine ab_aload_n (i := 0) (x := am_oid 4) (am_dec td_9_init 18 rfl) rfl rfl ?_
  refine ab_sipush (v := 600) (am_dec td_9_init 19 rfl) (by decide) ?_
  refine ab_newa (ci := 9) (o := 4) (k := 10) (t := 0) (N := 600) (i := am_aid 4 10) (am_dec td_9_init 20 rfl) rfl (am_in1 114 rfl rfl) rfl (by decide) rfl (by decide) (by decide) rfl rfl (by decide) (by decide +kernel) (by decide +kernel) (by decide +kernel) (by decide +kernel) (by decide +kernel) (by decide +kernel) (by decide +kernel) ?_
  refine ab_put (o := 4) (am_dec td_9_init 21 rfl) fl_9_24 rfl (by decide) rfl (by decide) rfl (by decide +kernel) ?_
  refine ab_aload_n (i := 0) (x := am_oid 4) (am_dec td_9_init 22 rfl) rfl rfl ?_
  refine ab_sipush (v := 4800) (am_dec td_9_init 23 rfl) (by decide) ?_
  refine ab_newa (ci := 9) (o := 4) (k := 11) (t := 0) (N := 4800) (i := am_aid 4 11) (am_dec td_9_init 24 rfl) rfl (am_in1 114 rfl rfl) rfl (by decide) rfl (by decide) (by decide) rfl rfl (by decide) (by decide +kernel) (by decide +kernel) (by decide +kernel) (by decide +kernel) (by decide +kernel) (by decide +kernel) (by decide +kernel) ?_
  refine ab_put (o := 4) (am_dec td_9_init 25 rfl) fl_9_27 rfl (by decide) rfl (by decide) rfl (by decide +kernel) ?_
  refine ab_aload_n (i := 0) (x := am_oid 4) (am_dec td_9_init 26 rfl) rfl rfl ?_
  refine ab_iconst (v := 3) (am_dec td_9_init 27 rfl) (by decide) ?_
  refine ab_newa (ci := 9) (o := 4) (k := 12) (t := 0) (N := 3) (i := am_aid 4 12) (am_dec td_9_init 28 rfl) rfl (am_in1 114 rfl rfl) rfl (by decide) rfl (by decide) (by decide) rfl rfl (by decide) (by decide +kernel) (by decide +kernel) (by decide +kernel) (by decide +kernel) (by decide +kernel) (by decide +kernel) (by decide +kernel) ?_
  refine ab_put (o := 4) (am_dec td_9_init 29 rfl) fl_9_30 rfl (by decide) rfl (by decide) rfl (by decide +kernel) ?_
  refine ab_aload_n (i := 0) (x := am_oid 4) (am_dec td_9_init 30 rfl) rfl rfl ?_
  refine ab_sipush (v := 600) (am_dec td_9_init 31 rfl) (by decide) ?_
  refine ab_newa (ci := 9) (o := 4) (k := 13) (t := 0) (N := 600) (i := am_aid 4 13) (am_dec td_9_init 32 rfl) rfl (am_in1 114 rfl rfl) rfl (by decide) rfl (by decide) (by decide) rfl rfl (by decide) (by decide +kernel) (by decide +kernel) (by decide +kernel) (by decide +kernel) (by decide +kernel) (by decide +kernel) (by decide +kernel) ?_
  refine ab_put (o := 4) (am_dec td_9_init 33 rfl) fl_9_33 rfl (by decide) rfl (by decide) rfl (by decide +kernel) ?_
  refine ab_aload_n (i := 0) (x := am_oid 4) (am_dec td_9_init 34 rfl) rfl rfl ?_
  refine ab_sipush (v := 600) (am_dec td_9_init 35 rfl) (by decide) ?_
  refine ab_newa (ci := 9) (o := 4) (k := 14) (t := 0) (N := 600) (i := am_aid 4 14) (am_dec td_9_init 36 rfl) rfl (am_in1 114 rfl rfl) rfl (by decide) rfl (by decide) (by decide) rfl rfl (by decide) (by decide +kernel) (by decide +kernel) (by decide +kernel) (by decide +kernel) (by decide +kernel) (by decide +kernel) (by decide +kernel) ?_
  refine ab_put (o := 4) (am_dec td_9_init 37 rfl) fl_9_36 rfl (by decide) rfl (by decide) rfl (by decide +kernel) ?_
  refine ab_aload_n (i := 0) (x := am_oid 4) (am_dec td_9_init 38 rfl) rfl rfl ?_
  refine ab_sipush (v := 4800) (am_dec td_9_init 39 rfl) (by decide) ?_
  refine ab_newa (ci := 9) (o := 4) (k := 15) (t := 0) (N := 4800) (i := am_aid 4 15) (am_dec td_9_init 40 rfl) rfl (am_in1 114 rfl rfl) rfl (by decide) rfl (by decide) (by decide) rfl rfl (by decide) (by decide +kernel) (by decide +kernel) (by decide +kernel) (by decide +kernel) (by decide +kernel) (by decide +kernel) (by decide +kernel) ?_
  refine ab_put (o := 4) (am_dec td_9_init 41 rfl) fl_9_39 rfl (by decide) rfl (by decide) rfl (by decide +kernel) ?_
  exact ab_ret (am_dec td_9_init 42 rfl) rfl (by decide +kernel) (by decide +kernel) (by decide +kernel) (by decide +kernel) rfl
def bj_5 : List (Nat × Nat) := [(0, 0), (1, 8), (1, 9), (1, 10), (1, 11), (1, 12), (1, 13), (1, 14), (1, 15), (0, 2), (3, 1), (3, 2), (3, 3), (3, 4), (2, 1), (2, 9), (2, 0), (0, 3), (4, 6), (4, 7), (4, 8), (4, 9), (4, 10), (4, 11), (4, 12), (4, 13), (4, 14), (4, 15), (0, 6)]
def bj1_5 : List (Nat × Nat) := [(0, 0), (1, 8), (1, 9), (1, 10), (1, 11), (1, 12), (1, 13), (1, 14), (1, 15), (0, 2), (3, 1), (3, 2), (3, 3), (3, 4), (2, 1), (2, 9), (2, 0), (0, 3), (4, 6), (4, 7), (4, 8), (4, 9), (4, 10), (4, 11), (4, 12), (4, 13), (4, 14), (4, 15), (0, 6), (5, 1), (5, 2), (5, 3), (5, 4), (5, 5), (5, 0)]
def bi_5 : List Nat := [0, 1, 64, 73, 74, 75, 76, 77, 78, 79, 80, 128, 192, 194, 195, 196, 197, 138, 256, 263, 264, 265, 266, 267, 268, 269, 270, 271, 272, 320]
def bi1_5 : List Nat := [0, 1, 64, 73, 74, 75, 76, 77, 78, 79, 80, 128, 192, 194, 195, 196, 197, 138, 256, 263, 264, 265, 266, 267, 268, 269, 270, 271, 272, 320, 322, 323, 324, 325, 326]
theorem cn_5 {d : Nat} {σ : am_St} (hz : σ = (am_sI (am_sI (am_sI si_C 0 1 0) 0 4 0) 0 5 (-1))) : am_D false ya_0_init (d + 1) 5 1020 [.ref (am_oid 5), .ref (am_oid 4)] σ bj_5 bi_5 bj1_5 bi1_5 (fun τ => τ = σ) := by
  subst hz
  refine am_Benter rfl rfl (by decide) (by decide) ?_
  refine ab_aload_n (i := 0) (x := am_oid 5) (am_dec td_0_init 0 rfl) rfl rfl ?_
  refine ab_obj (am_dec td_0_init 1 rfl) ⟨am_in2 34 rfl rfl, am_in1 31 rfl rfl, am_in1 32 rfl rfl⟩ (by decide) (by omega) ?_
  refine ab_aload_n (i := 0) (x := am_oid 5) (am_dec td_0_init 2 rfl) rfl rfl ?_
  refine ab_sipush (v := 200) (am_dec td_0_init 3 rfl) (by decide) ?_
  refine ab_newa (ci := 0) (o := 5) (k := 1) (t := 0) (N := 200) (i := am_aid 5 1) (am_dec td_0_init 4 rfl) rfl (am_in1 114 rfl rfl) rfl (by decide) rfl (by decide) (by decide) rfl rfl (by decide) (by decide +kernel) (by decide +kernel) (by decide +kernel) (by decide +kernel) (by decide +kernel) (by decide +kernel) (by decide +kernel) ?_
  refine ab_put (o := 5) (am_dec td_0_init 5 rfl) fl_0_9 rfl (by decide) rfl (by decide) rfl (by decide +kernel) ?_
  refine ab_aload_n (i := 0) (x := am_oid 5) (am_dec td_0_init 6 rfl) rfl rfl ?_
  refine ab_sipush (v := 200) (am_dec td_0_init 7 rfl) (by decide) ?_
  refine ab_newa (ci := 0) (o := 5) (k := 2) (t := 0) (N := 200) (i := am_aid 5 2) (am_dec td_0_init 8 rfl) rfl (am_in1 114 rfl rfl) rfl (by decide) rfl (by decide) (by decide) rfl rfl (by decide) (by decide +kernel) (by decide +kernel) (by decide +kernel) (by decide +kernel) (by decide +kernel) (by decide +kernel) (by decide +kernel) ?_
  refine ab_put (o := 5) (am_dec td_0_init 9 rfl) fl_0_15 rfl (by decide) rfl (by decide) rfl (by decide +kernel) ?_
  refine ab_aload_n (i := 0) (x := am_oid 5) (am_dec td_0_init 10 rfl) rfl rfl ?_
  refine ab_sipush (v := 200) (am_dec td_0_init 11 rfl) (by decide) ?_
  refine ab_newa (ci := 0) (o := 5) (k := 3) (t := 0) (N := 200) (i := am_aid 5 3) (am_dec td_0_init 12 rfl) rfl (am_in1 114 rfl rfl) rfl (by decide) rfl (by decide) (by decide) rfl rfl (by decide) (by decide +kernel) (by decide +kernel) (by decide +kernel) (by decide +kernel) (by decide +kernel) (by decide +kernel) (by decide +kernel) ?_
  refine ab_put (o := 5) (am_dec td_0_init 13 rfl) fl_0_18 rfl (by decide) rfl (by decide) rfl (by decide +kernel) ?_
  refine ab_aload_n (i := 0) (x := am_oid 5) (am_dec td_0_init 14 rfl) rfl rfl ?_
  refine ab_sipush (v := 300) (am_dec td_0_init 15 rfl) (by decide) ?_
  refine ab_newa (ci := 0) (o := 5) (k := 4) (t := 0) (N := 300) (i := am_aid 5 4) (am_dec td_0_init 16 rfl) rfl (am_in1 114 rfl rfl) rfl (by decide) rfl (by decide) (by decide) rfl rfl (by decide) (by decide +kernel) (by decide +kernel) (by decide +kernel) (by decide +kernel) (by decide +kernel) (by decide +kernel) (by decide +kernel) ?_
  refine ab_put (o := 5) (am_dec td_0_init 17 rfl) fl_0_21 rfl (by decide) rfl (by decide) rfl (by decide +kernel) ?_
  refine ab_aload_n (i := 0) (x := am_oid 5) (am_dec td_0_init 18 rfl) rfl rfl ?_
  refine ab_bipush (v := 120) (am_dec td_0_init 19 rfl) (by decide) ?_
  refine ab_newa (ci := 0) (o := 5) (k := 5) (t := 0) (N := 120) (i := am_aid 5 5) (am_dec td_0_init 20 rfl) rfl (am_in1 114 rfl rfl) rfl (by decide) rfl (by decide) (by decide) rfl rfl (by decide) (by decide +kernel) (by decide +kernel) (by decide +kernel) (by decide +kernel) (by decide +kernel) (by decide +kernel) (by decide +kernel) ?_
  refine ab_put (o := 5) (am_dec td_0_init 21 rfl) fl_0_24 rfl (by decide) rfl (by decide) rfl (by decide +kernel) ?_
  refine ab_aload_n (i := 0) (x := am_oid 5) (am_dec td_0_init 22 rfl) rfl rfl ?_
  refine ab_aload_n (i := 1) (x := am_oid 4) (am_dec td_0_init 23 rfl) rfl rfl ?_
  refine ab_put (o := 5) (am_dec td_0_init 24 rfl) fl_0_27 rfl (by decide) rfl (by decide) rfl (by decide +kernel) ?_
  exact ab_ret (am_dec td_0_init 25 rfl) rfl (by decide +kernel) (by decide +kernel) (by decide +kernel) (by decide +kernel) rfl
def bj_8 : List (Nat × Nat) := [(0, 0), (1, 8), (1, 9), (1, 10), (1, 11), (1, 12), (1, 13), (1, 14), (1, 15), (0, 2), (3, 1), (3, 2), (3, 3), (3, 4), (2, 1), (2, 9), (2, 0), (0, 3), (4, 6), (4, 7), (4, 8), (4, 9), (4, 10), (4, 11), (4, 12), (4, 13), (4, 14), (4, 15), (0, 6), (5, 1), (5, 2), (5, 3), (5, 4), (5, 5), (5, 0), (0, 9)]
def bj1_8 : List (Nat × Nat) := [(0, 0), (1, 8), (1, 9), (1, 10), (1, 11), (1, 12), (1, 13), (1, 14), (1, 15), (0, 2), (3, 1), (3, 2), (3, 3), (3, 4), (2, 1), (2, 9), (2, 0), (0, 3), (4, 6), (4, 7), (4, 8), (4, 9), (4, 10), (4, 11), (4, 12), (4, 13), (4, 14), (4, 15), (0, 6), (5, 1), (5, 2), (5, 3), (5, 4), (5, 5), (5, 0), (0, 9), (8, 2), (8, 3), (8, 4), (8, 5), (8, 6), (8, 7), (8, 8), (8, 9), (8, 10), (8, 11), (8, 12)]
def bi_8 : List Nat := [0, 1, 64, 73, 74, 75, 76, 77, 78, 79, 80, 128, 192, 194, 195, 196, 197, 138, 256, 263, 264, 265, 266, 267, 268, 269, 270, 271, 272, 320, 322, 323, 324, 325, 326, 384, 512]
def bi1_8 : List Nat := [0, 1, 64, 73, 74, 75, 76, 77, 78, 79, 80, 128, 192, 194, 195, 196, 197, 138, 256, 263, 264, 265, 266, 267, 268, 269, 270, 271, 272, 320, 322, 323, 324, 325, 326, 384, 512, 515, 516, 517, 518, 519, 520, 521, 522, 523, 524, 525]
theorem cn_8 {d : Nat} {σ : am_St} (hz : σ = (am_sI (am_sI (am_sI si_C 0 1 0) 0 4 0) 0 5 (-1))) : am_D false ya_5_init (d + 1) 11 3000 [.ref (am_oid 8)] σ bj_8 bi_8 bj1_8 bi1_8 (fun τ => τ = σ) := by
  subst hz
  refine am_Benter rfl rfl (by decide) (by decide) ?_
  refine ab_aload_n (i := 0) (x := am_oid 8) (am_dec td_5_init 0 rfl) rfl rfl ?_
  refine ab_obj (am_dec td_5_init 1 rfl) ⟨am_in2 86 rfl rfl, am_in1 31 rfl rfl, am_in1 32 rfl rfl⟩ (by decide) (by omega) ?_
  refine ab_aload_n (i := 0) (x := am_oid 8) (am_dec td_5_init 2 rfl) rfl rfl ?_
  refine ab_sipush (v := 200) (am_dec td_5_init 3 rfl) (by decide) ?_
  refine ab_newa (ci := 5) (o := 8) (k := 2) (t := 0) (N := 200) (i := am_aid 8 2) (am_dec td_5_init 4 rfl) rfl (am_in1 114 rfl rfl) rfl (by decide) rfl (by decide) (by decide) rfl rfl (by decide) (by decide +kernel) (by decide +kernel) (by decide +kernel) (by decide +kernel) (by decide +kernel) (by decide +kernel) (by decide +kernel) ?_
  refine ab_put (o := 8) (am_dec td_5_init 5 rfl) fl_5_9 rfl (by decide) rfl (by decide) rfl (by decide +kernel) ?_
  refine ab_aload_n (i := 0) (x := am_oid 8) (am_dec td_5_init 6 rfl) rfl rfl ?_
  refine ab_sipush (v := 200) (am_dec td_5_init 7 rfl) (by decide) ?_
  refine ab_newa (ci := 5) (o := 8) (k := 3) (t := 0) (N := 200) (i := am_aid 8 3) (am_dec td_5_init 8 rfl) rfl (am_in1 114 rfl rfl) rfl (by decide) rfl (by decide) (by decide) rfl rfl (by decide) (by decide +kernel) (by decide +kernel) (by decide +kernel) (by decide +kernel) (by decide +kernel) (by decide +kernel) (by decide +kernel) ?_
  refine ab_put (o := 8) (am_dec td_5_init 9 rfl) fl_5_15 rfl (by decide) rfl (by decide) rfl (by decide +kernel) ?_
  refine ab_aload_n (i := 0) (x := am_oid 8) (am_dec td_5_init 10 rfl) rfl rfl ?_
  refine ab_sipush (v := 300) (am_dec td_5_init 11 rfl) (by decide) ?_
  refine ab_newa (ci := 5) (o := 8) (k := 4) (t := 0) (N := 300) (i := am_aid 8 4) (am_dec td_5_init 12 rfl) rfl (am_in1 114 rfl rfl) rfl (by decide) rfl (by decide) (by decide) rfl rfl (by decide) (by decide +kernel) (by decide +kernel) (by decide +kernel) (by decide +kernel) (by decide +kernel) (by decide +kernel) (by decide +kernel) ?_
  refine ab_put (o := 8) (am_dec td_5_init 13 rfl) fl_5_18 rfl (by decide) rfl (by decide) rfl (by decide +kernel) ?_
  refine ab_aload_n (i := 0) (x := am_oid 8) (am_dec td_5_init 14 rfl) rfl rfl ?_
  refine ab_sipush (v := 300) (am_dec td_5_init 15 rfl) (by decide) ?_
  refine ab_newa (ci := 5) (o := 8) (k := 5) (t := 0) (N := 300) (i := am_aid 8 5) (am_dec td_5_init 16 rfl) rfl (am_in1 114 rfl rfl) rfl (by decide) rfl (by decide) (by decide) rfl rfl (by decide) (by decide +kernel) (by decide +kernel) (by decide +kernel) (by decide +kernel) (by decide +kernel) (by decide +kernel) (by decide +kernel) ?_
  refine ab_put (o := 8) (am_dec td_5_init 17 rfl) fl_5_21 rfl (by decide) rfl (by decide) rfl (by decide +kernel) ?_
  refine ab_aload_n (i := 0) (x := am_oid 8) (am_dec td_5_init 18 rfl) rfl rfl ?_
  refine ab_sipush (v := 600) (am_dec td_5_init 19 rfl) (by decide) ?_
  refine ab_newa (ci := 5) (o := 8) (k := 6) (t := 0) (N := 600) (i := am_aid 8 6) (am_dec td_5_init 20 rfl) rfl (am_in1 114 rfl rfl) rfl (by decide) rfl (by decide) (by decide) rfl rfl (by decide) (by decide +kernel) (by decide +kernel) (by decide +kernel) (by decide +kernel) (by decide +kernel) (by decide +kernel) (by decide +kernel) ?_
  refine ab_put (o := 8) (am_dec td_5_init 21 rfl) fl_5_24 rfl (by decide) rfl (by decide) rfl (by decide +kernel) ?_
  refine ab_aload_n (i := 0) (x := am_oid 8) (am_dec td_5_init 22 rfl) rfl rfl ?_
  refine ab_sipush (v := 200) (am_dec td_5_init 23 rfl) (by decide) ?_
  refine ab_newa (ci := 5) (o := 8) (k := 7) (t := 0) (N := 200) (i := am_aid 8 7) (am_dec td_5_init 24 rfl) rfl (am_in1 114 rfl rfl) rfl (by decide) rfl (by decide) (by decide) rfl rfl (by decide) (by decide +kernel) (by decide +kernel) (by decide +kernel) (by decide +kernel) (by decide +kernel) (by decide +kernel) (by decide +kernel) ?_
  refine ab_put (o := 8) (am_dec td_5_init 25 rfl) fl_5_27 rfl (by decide) rfl (by decide) rfl (by decide +kernel) ?_
  refine ab_aload_n (i := 0) (x := am_oid 8) (am_dec td_5_init 26 rfl) rfl rfl ?_
  refine ab_sipush (v := 300) (am_dec td_5_init 27 rfl) (by decide) ?_
  refine ab_newa (ci := 5) (o := 8) (k := 8) (t := 0) (N := 300) (i := am_aid 8 8) (am_dec td_5_init 28 rfl) rfl (am_in1 114 rfl rfl) rfl (by decide) rfl (by decide) (by decide) rfl rfl (by decide) (by decide +kernel) (by decide +kernel) (by decide +kernel) (by decide +kernel) (by decide +kernel) (by decide +kernel) (by decide +kernel) ?_
  refine ab_put (o := 8) (am_dec td_5_init 29 rfl) fl_5_30 rfl (by decide) rfl (by decide) rfl (by decide +kernel) ?_
  refine ab_aload_n (i := 0) (x := am_oid 8) (am_dec td_5_init 30 rfl) rfl rfl ?_
  refine ab_sipush (v := 200) (am_dec td_5_init 31 rfl) (by decide) ?_
  refine ab_newa (ci := 5) (o := 8) (k := 9) (t := 0) (N := 200) (i := am_aid 8 9) (am_dec td_5_init 32 rfl) rfl (am_in1 114 rfl rfl) rfl (by decide) rfl (by decide) (by decide) rfl rfl (by decide) (by decide +kernel) (by decide +kernel) (by decide +kernel) (by decide +kernel) (by decide +kernel) (by decide +kernel) (by decide +kernel) ?_
  refine ab_put (o := 8) (am_dec td_5_init 33 rfl) fl_5_33 rfl (by decide) rfl (by decide) rfl (by decide +kernel) ?_
  refine ab_aload_n (i := 0) (x := am_oid 8) (am_dec td_5_init 34 rfl) rfl rfl ?_
  refine ab_sipush (v := 300) (am_dec td_5_init 35 rfl) (by decide) ?_
  refine ab_newa (ci := 5) (o := 8) (k := 10) (t := 0) (N := 300) (i := am_aid 8 10) (am_dec td_5_init 36 rfl) rfl (am_in1 114 rfl rfl) rfl (by decide) rfl (by decide) (by decide) rfl rfl (by decide) (by decide +kernel) (by decide +kernel) (by decide +kernel) (by decide +kernel) (by decide +kernel) (by decide +kernel) (by decide +kernel) ?_
  refine ab_put (o := 8) (am_dec td_5_init 37 rfl) fl_5_36 rfl (by decide) rfl (by decide) rfl (by decide +kernel) ?_
  refine ab_aload_n (i := 0) (x := am_oid 8) (am_dec td_5_init 38 rfl) rfl rfl ?_
  refine ab_sipush (v := 200) (am_dec td_5_init 39 rfl) (by decide) ?_
  refine ab_newa (ci := 5) (o := 8) (k := 11) (t := 0) (N := 200) (i := am_aid 8 11) (am_dec td_5_init 40 rfl) rfl (am_in1 114 rfl rfl) rfl (by decide) rfl (by decide) (by decide) rfl rfl (by decide) (by decide +kernel) (by decide +kernel) (by decide +kernel) (by decide +kernel) (by decide +kernel) (by decide +kernel) (by decide +kernel) ?_
  refine ab_put (o := 8) (am_dec td_5_init 41 rfl) fl_5_39 rfl (by decide) rfl (by decide) rfl (by decide +kernel) ?_
  refine ab_aload_n (i := 0) (x := am_oid 8) (am_dec td_5_init 42 rfl) rfl rfl ?_
  refine ab_sipush (v := 200) (am_dec td_5_init 43 rfl) (by decide) ?_
  refine ab_newa (ci := 5) (o := 8) (k := 12) (t := 0) (N := 200) (i := am_aid 8 12) (am_dec td_5_init 44 rfl) rfl (am_in1 114 rfl rfl) rfl (by decide) rfl (by decide) (by decide) rfl rfl (by decide) (by decide +kernel) (by decide +kernel) (by decide +kernel) (by decide +kernel) (by decide +kernel) (by decide +kernel) (by decide +kernel) ?_
  refine ab_put (o := 8) (am_dec td_5_init 45 rfl) fl_5_42 rfl (by decide) rfl (by decide) rfl (by decide +kernel) ?_
  exact ab_ret (am_dec td_5_init 46 rfl) rfl (by decide +kernel) (by decide +kernel) (by decide +kernel) (by decide +kernel) rfl
def bj_10 : List (Nat × Nat) := [(0, 0), (1, 8), (1, 9), (1, 10), (1, 11), (1, 12), (1, 13), (1, 14), (1, 15), (0, 2), (3, 1), (3, 2), (3, 3), (3, 4), (2, 1), (2, 9), (2, 0), (0, 3), (4, 6), (4, 7), (4, 8), (4, 9), (4, 10), (4, 11), (4, 12), (4, 13), (4, 14), (4, 15), (0, 6), (5, 1), (5, 2), (5, 3), (5, 4), (5, 5), (5, 0), (0, 9), (8, 2), (8, 3), (8, 4), (8, 5), (8, 6), (8, 7), (8, 8), (8, 9), (8, 10), (8, 11), (8, 12), (6, 2)]
def bj1_10 : List (Nat × Nat) := [(0, 0), (1, 8), (1, 9), (1, 10), (1, 11), (1, 12), (1, 13), (1, 14), (1, 15), (0, 2), (3, 1), (3, 2), (3, 3), (3, 4), (2, 1), (2, 9), (2, 0), (0, 3), (4, 6), (4, 7), (4, 8), (4, 9), (4, 10), (4, 11), (4, 12), (4, 13), (4, 14), (4, 15), (0, 6), (5, 1), (5, 2), (5, 3), (5, 4), (5, 5), (5, 0), (0, 9), (8, 2), (8, 3), (8, 4), (8, 5), (8, 6), (8, 7), (8, 8), (8, 9), (8, 10), (8, 11), (8, 12), (6, 2), (10, 1), (10, 2), (10, 3), (10, 4), (10, 5), (10, 6), (10, 7)]
def bi_10 : List Nat := [0, 1, 64, 73, 74, 75, 76, 77, 78, 79, 80, 128, 192, 194, 195, 196, 197, 138, 256, 263, 264, 265, 266, 267, 268, 269, 270, 271, 272, 320, 322, 323, 324, 325, 326, 384, 512, 515, 516, 517, 518, 519, 520, 521, 522, 523, 524, 525, 640]
def bi1_10 : List Nat := [0, 1, 64, 73, 74, 75, 76, 77, 78, 79, 80, 128, 192, 194, 195, 196, 197, 138, 256, 263, 264, 265, 266, 267, 268, 269, 270, 271, 272, 320, 322, 323, 324, 325, 326, 384, 512, 515, 516, 517, 518, 519, 520, 521, 522, 523, 524, 525, 640, 642, 643, 644, 645, 646, 647, 648]
theorem cn_10 {d : Nat} {σ : am_St} (hz : σ = (am_sI (am_sI (am_sI si_C 0 1 0) 0 4 0) 0 5 (-1))) : am_D false ya_8_init (d + 1) 7 2800 [.ref (am_oid 10)] σ bj_10 bi_10 bj1_10 bi1_10 (fun τ => τ = σ) := by
  subst hz
  refine am_Benter rfl rfl (by decide) (by decide) ?_
  refine ab_aload_n (i := 0) (x := am_oid 10) (am_dec td_8_init 0 rfl) rfl rfl ?_
  refine ab_obj (am_dec td_8_init 1 rfl) ⟨am_in2 149 rfl rfl, am_in1 31 rfl rfl, am_in1 32 rfl rfl⟩ (by decide) (by omega) ?_
  refine ab_aload_n (i := 0) (x := am_oid 10) (am_dec td_8_init 2 rfl) rfl rfl ?_
  refine ab_sipush (v := 400) (am_dec td_8_init 3 rfl) (by decide) ?_
  refine ab_newa (ci := 8) (o := 10) (k := 1) (t := 0) (N := 400) (i := am_aid 10 1) (am_dec td_8_init 4 rfl) rfl (am_in1 114 rfl rfl) rfl (by decide) rfl (by decide) (by decide) rfl rfl (by decide) (by decide +kernel) (by decide +kernel) (by decide +kernel) (by decide +kernel) (by decide +kernel) (by decide +kernel) (by decide +kernel) ?_
  refine ab_put (o := 10) (am_dec td_8_init 5 rfl) fl_8_9 rfl (by decide) rfl (by decide) rfl (by decide +kernel) ?_
  refine ab_aload_n (i := 0) (x := am_oid 10) (am_dec td_8_init 6 rfl) rfl rfl ?_
  refine ab_sipush (v := 400) (am_dec td_8_init 7 rfl) (by decide) ?_
  refine ab_newa (ci := 8) (o := 10) (k := 2) (t := 0) (N := 400) (i := am_aid 10 2) (am_dec td_8_init 8 rfl) rfl (am_in1 114 rfl rfl) rfl (by decide) rfl (by decide) (by decide) rfl rfl (by decide) (by decide +kernel) (by decide +kernel) (by decide +kernel) (by decide +kernel) (by decide +kernel) (by decide +kernel) (by decide +kernel) ?_
  refine ab_put (o := 10) (am_dec td_8_init 9 rfl) fl_8_15 rfl (by decide) rfl (by decide) rfl (by decide +kernel) ?_
  refine ab_aload_n (i := 0) (x := am_oid 10) (am_dec td_8_init 10 rfl) rfl rfl ?_
  refine ab_sipush (v := 400) (am_dec td_8_init 11 rfl) (by decide) ?_
  refine ab_newa (ci := 8) (o := 10) (k := 3) (t := 0) (N := 400) (i := am_aid 10 3) (am_dec td_8_init 12 rfl) rfl (am_in1 114 rfl rfl) rfl (by decide) rfl (by decide) (by decide) rfl rfl (by decide) (by decide +kernel) (by decide +kernel) (by decide +kernel) (by decide +kernel) (by decide +kernel) (by decide +kernel) (by decide +kernel) ?_
  refine ab_put (o := 10) (am_dec td_8_init 13 rfl) fl_8_18 rfl (by decide) rfl (by decide) rfl (by decide +kernel) ?_
  refine ab_aload_n (i := 0) (x := am_oid 10) (am_dec td_8_init 14 rfl) rfl rfl ?_
  refine ab_sipush (v := 400) (am_dec td_8_init 15 rfl) (by decide) ?_
  refine ab_newa (ci := 8) (o := 10) (k := 4) (t := 0) (N := 400) (i := am_aid 10 4) (am_dec td_8_init 16 rfl) rfl (am_in1 114 rfl rfl) rfl (by decide) rfl (by decide) (by decide) rfl rfl (by decide) (by decide +kernel) (by decide +kernel) (by decide +kernel) (by decide +kernel) (by decide +kernel) (by decide +kernel) (by decide +kernel) ?_
  refine ab_put (o := 10) (am_dec td_8_init 17 rfl) fl_8_21 rfl (by decide) rfl (by decide) rfl (by decide +kernel) ?_
  refine ab_aload_n (i := 0) (x := am_oid 10) (am_dec td_8_init 18 rfl) rfl rfl ?_
  refine ab_sipush (v := 400) (am_dec td_8_init 19 rfl) (by decide) ?_
  refine ab_newa (ci := 8) (o := 10) (k := 5) (t := 0) (N := 400) (i := am_aid 10 5) (am_dec td_8_init 20 rfl) rfl (am_in1 114 rfl rfl) rfl (by decide) rfl (by decide) (by decide) rfl rfl (by decide) (by decide +kernel) (by decide +kernel) (by decide +kernel) (by decide +kernel) (by decide +kernel) (by decide +kernel) (by decide +kernel) ?_
  refine ab_put (o := 10) (am_dec td_8_init 21 rfl) fl_8_24 rfl (by decide) rfl (by decide) rfl (by decide +kernel) ?_
  refine ab_aload_n (i := 0) (x := am_oid 10) (am_dec td_8_init 22 rfl) rfl rfl ?_
  refine ab_sipush (v := 400) (am_dec td_8_init 23 rfl) (by decide) ?_
  refine ab_newa (ci := 8) (o := 10) (k := 6) (t := 0) (N := 400) (i := am_aid 10 6) (am_dec td_8_init 24 rfl) rfl (am_in1 114 rfl rfl) rfl (by decide) rfl (by decide) (by decide) rfl rfl (by decide) (by decide +kernel) (by decide +kernel) (by decide +kernel) (by decide +kernel) (by decide +kernel) (by decide +kernel) (by decide +kernel) ?_
  refine ab_put (o := 10) (am_dec td_8_init 25 rfl) fl_8_27 rfl (by decide) rfl (by decide) rfl (by decide +kernel) ?_
  refine ab_aload_n (i := 0) (x := am_oid 10) (am_dec td_8_init 26 rfl) rfl rfl ?_
  refine ab_sipush (v := 400) (am_dec td_8_init 27 rfl) (by decide) ?_
  refine ab_newa (ci := 8) (o := 10) (k := 7) (t := 0) (N := 400) (i := am_aid 10 7) (am_dec td_8_init 28 rfl) rfl (am_in1 114 rfl rfl) rfl (by decide) rfl (by decide) (by decide) rfl rfl (by decide) (by decide +kernel) (by decide +kernel) (by decide +kernel) (by decide +kernel) (by decide +kernel) (by decide +kernel) (by decide +kernel) ?_
  refine ab_put (o := 10) (am_dec td_8_init 29 rfl) fl_8_30 rfl (by decide) rfl (by decide) rfl (by decide +kernel) ?_
  exact ab_ret (am_dec td_8_init 30 rfl) rfl (by decide +kernel) (by decide +kernel) (by decide +kernel) (by decide +kernel) rfl
def bj_11 : List (Nat × Nat) := [(0, 0), (1, 8), (1, 9), (1, 10), (1, 11), (1, 12), (1, 13), (1, 14), (1, 15), (0, 2), (3, 1), (3, 2), (3, 3), (3, 4), (2, 1), (2, 9), (2, 0), (0, 3), (4, 6), (4, 7), (4, 8), (4, 9), (4, 10), (4, 11), (4, 12), (4, 13), (4, 14), (4, 15), (0, 6), (5, 1), (5, 2), (5, 3), (5, 4), (5, 5), (5, 0), (0, 9), (8, 2), (8, 3), (8, 4), (8, 5), (8, 6), (8, 7), (8, 8), (8, 9), (8, 10), (8, 11), (8, 12), (6, 2), (10, 1), (10, 2), (10, 3), (10, 4), (10, 5), (10, 6), (10, 7), (6, 3)]
def bj1_11 : List (Nat × Nat) := [(0, 0), (1, 8), (1, 9), (1, 10), (1, 11), (1, 12), (1, 13), (1, 14), (1, 15), (0, 2), (3, 1), (3, 2), (3, 3), (3, 4), (2, 1), (2, 9), (2, 0), (0, 3), (4, 6), (4, 7), (4, 8), (4, 9), (4, 10), (4, 11), (4, 12), (4, 13), (4, 14), (4, 15), (0, 6), (5, 1), (5, 2), (5, 3), (5, 4), (5, 5), (5, 0), (0, 9), (8, 2), (8, 3), (8, 4), (8, 5), (8, 6), (8, 7), (8, 8), (8, 9), (8, 10), (8, 11), (8, 12), (6, 2), (10, 1), (10, 2), (10, 3), (10, 4), (10, 5), (10, 6), (10, 7), (6, 3), (11, 1), (11, 2), (11, 3), (11, 4), (11, 5), (11, 6), (11, 7)]
def bi_11 : List Nat := [0, 1, 64, 73, 74, 75, 76, 77, 78, 79, 80, 128, 192, 194, 195, 196, 197, 138, 256, 263, 264, 265, 266, 267, 268, 269, 270, 271, 272, 320, 322, 323, 324, 325, 326, 384, 512, 515, 516, 517, 518, 519, 520, 521, 522, 523, 524, 525, 640, 642, 643, 644, 645, 646, 647, 648, 704]
def bi1_11 : List Nat := [0, 1, 64, 73, 74, 75, 76, 77, 78, 79, 80, 128, 192, 194, 195, 196, 197, 138, 256, 263, 264, 265, 266, 267, 268, 269, 270, 271, 272, 320, 322, 323, 324, 325, 326, 384, 512, 515, 516, 517, 518, 519, 520, 521, 522, 523, 524, 525, 640, 642, 643, 644, 645, 646, 647, 648, 704, 706, 707, 708, 709, 710, 711, 712]
theorem cn_11 {d : Nat} {σ : am_St} (hz : σ = (am_sI (am_sI (am_sI si_C 0 1 0) 0 4 0) 0 5 (-1))) : am_D false ya_8_init (d + 1) 7 2800 [.ref (am_oid 11)] σ bj_11 bi_11 bj1_11 bi1_11 (fun τ => τ = σ) := by
  subst hz
  refine am_Benter rfl rfl (by decide) (by decide) ?_
  refine ab_aload_n (i := 0) (x := am_oid 11) (am_dec td_8_init 0 rfl) rfl rfl ?_
  refine ab_obj (am_dec td_8_init 1 rfl) ⟨am_in2 149 rfl rfl, am_in1 31 rfl rfl, am_in1 32 rfl rfl⟩ (by decide) (by omega) ?_
  refine ab_aload_n (i := 0) (x := am_oid 11) (am_dec td_8_init 2 rfl) rfl rfl ?_
  refine ab_sipush (v := 400) (am_dec td_8_init 3 rfl) (by decide) ?_
  refine ab_newa (ci := 8) (o := 11) (k := 1) (t := 0) (N := 400) (i := am_aid 11 1) (am_dec td_8_init 4 rfl) rfl (am_in1 114 rfl rfl) rfl (by decide) rfl (by decide) (by decide) rfl rfl (by decide) (by decide +kernel) (by decide +kernel) (by decide +kernel) (by decide +kernel) (by decide +kernel) (by decide +kernel) (by decide +kernel) ?_
  refine ab_put (o := 11) (am_dec td_8_init 5 rfl) fl_8_9 rfl (by decide) rfl (by decide) rfl (by decide +kernel) ?_
  refine ab_aload_n (i := 0) (x := am_oid 11) (am_dec td_8_init 6 rfl) rfl rfl ?_
  refine ab_sipush (v := 400) (am_dec td_8_init 7 rfl) (by decide) ?_
  refine ab_newa (ci := 8) (o := 11) (k := 2) (t := 0) (N := 400) (i := am_aid 11 2) (am_dec td_8_init 8 rfl) rfl (am_in1 114 rfl rfl) rfl (by decide) rfl (by decide) (by decide) rfl rfl (by decide) (by decide +kernel) (by decide +kernel) (by decide +kernel) (by decide +kernel) (by decide +kernel) (by decide +kernel) (by decide +kernel) ?_
  refine ab_put (o := 11) (am_dec td_8_init 9 rfl) fl_8_15 rfl (by decide) rfl (by decide) rfl (by decide +kernel) ?_
  refine ab_aload_n (i := 0) (x := am_oid 11) (am_dec td_8_init 10 rfl) rfl rfl ?_
  refine ab_sipush (v := 400) (am_dec td_8_init 11 rfl) (by decide) ?_
  refine ab_newa (ci := 8) (o := 11) (k := 3) (t := 0) (N := 400) (i := am_aid 11 3) (am_dec td_8_init 12 rfl) rfl (am_in1 114 rfl rfl) rfl (by decide) rfl (by decide) (by decide) rfl rfl (by decide) (by decide +kernel) (by decide +kernel) (by decide +kernel) (by decide +kernel) (by decide +kernel) (by decide +kernel) (by decide +kernel) ?_
  refine ab_put (o := 11) (am_dec td_8_init 13 rfl) fl_8_18 rfl (by decide) rfl (by decide) rfl (by decide +kernel) ?_
  refine ab_aload_n (i := 0) (x := am_oid 11) (am_dec td_8_init 14 rfl) rfl rfl ?_
  refine ab_sipush (v := 400) (am_dec td_8_init 15 rfl) (by decide) ?_
  refine ab_newa (ci := 8) (o := 11) (k := 4) (t := 0) (N := 400) (i := am_aid 11 4) (am_dec td_8_init 16 rfl) rfl (am_in1 114 rfl rfl) rfl (by decide) rfl (by decide) (by decide) rfl rfl (by decide) (by decide +kernel) (by decide +kernel) (by decide +kernel) (by decide +kernel) (by decide +kernel) (by decide +kernel) (by decide +kernel) ?_
  refine ab_put (o := 11) (am_dec td_8_init 17 rfl) fl_8_21 rfl (by decide) rfl (by decide) rfl (by decide +kernel) ?_
  refine ab_aload_n (i := 0) (x := am_oid 11) (am_dec td_8_init 18 rfl) rfl rfl ?_
  refine ab_sipush (v := 400) (am_dec td_8_init 19 rfl) (by decide) ?_
  refine ab_newa (ci := 8) (o := 11) (k := 5) (t := 0) (N := 400) (i := am_aid 11 5) (am_dec td_8_init 20 rfl) rfl (am_in1 114 rfl rfl) rfl (by decide) rfl (by decide) (by decide) rfl rfl (by decide) (by decide +kernel) (by decide +kernel) (by decide +kernel) (by decide +kernel) (by decide +kernel) (by decide +kernel) (by decide +kernel) ?_
  refine ab_put (o := 11) (am_dec td_8_init 21 rfl) fl_8_24 rfl (by decide) rfl (by decide) rfl (by decide +kernel) ?_
  refine ab_aload_n (i := 0) (x := am_oid 11) (am_dec td_8_init 22 rfl) rfl rfl ?_
  refine ab_sipush (v := 400) (am_dec td_8_init 23 rfl) (by decide) ?_
  refine ab_newa (ci := 8) (o := 11) (k := 6) (t := 0) (N := 400) (i := am_aid 11 6) (am_dec td_8_init 24 rfl) rfl (am_in1 114 rfl rfl) rfl (by decide) rfl (by decide) (by decide) rfl rfl (by decide) (by decide +kernel) (by decide +kernel) (by decide +kernel) (by decide +kernel) (by decide +kernel) (by decide +kernel) (by decide +kernel) ?_
  refine ab_put (o := 11) (am_dec td_8_init 25 rfl) fl_8_27 rfl (by decide) rfl (by decide) rfl (by decide +kernel) ?_
  refine ab_aload_n (i := 0) (x := am_oid 11) (am_dec td_8_init 26 rfl) rfl rfl ?_
  refine ab_sipush (v := 400) (am_dec td_8_init 27 rfl) (by decide) ?_
  refine ab_newa (ci := 8) (o := 11) (k := 7) (t := 0) (N := 400) (i := am_aid 11 7) (am_dec td_8_init 28 rfl) rfl (am_in1 114 rfl rfl) rfl (by decide) rfl (by decide) (by decide) rfl rfl (by decide) (by decide +kernel) (by decide +kernel) (by decide +kernel) (by decide +kernel) (by decide +kernel) (by decide +kernel) (by decide +kernel) ?_
  refine ab_put (o := 11) (am_dec td_8_init 29 rfl) fl_8_30 rfl (by decide) rfl (by decide) rfl (by decide +kernel) ?_
  exact ab_ret (am_dec td_8_init 30 rfl) rfl (by decide +kernel) (by decide +kernel) (by decide +kernel) (by decide +kernel) rfl
def bj_6 : List (Nat × Nat) := [(0, 0), (1, 8), (1, 9), (1, 10), (1, 11), (1, 12), (1, 13), (1, 14), (1, 15), (0, 2), (3, 1), (3, 2), (3, 3), (3, 4), (2, 1), (2, 9), (2, 0), (0, 3), (4, 6), (4, 7), (4, 8), (4, 9), (4, 10), (4, 11), (4, 12), (4, 13), (4, 14), (4, 15), (0, 6), (5, 1), (5, 2), (5, 3), (5, 4), (5, 5), (5, 0), (0, 9)]
def bj1_6 : List (Nat × Nat) := [(0, 0), (1, 8), (1, 9), (1, 10), (1, 11), (1, 12), (1, 13), (1, 14), (1, 15), (0, 2), (3, 1), (3, 2), (3, 3), (3, 4), (2, 1), (2, 9), (2, 0), (0, 3), (4, 6), (4, 7), (4, 8), (4, 9), (4, 10), (4, 11), (4, 12), (4, 13), (4, 14), (4, 15), (0, 6), (5, 1), (5, 2), (5, 3), (5, 4), (5, 5), (5, 0), (0, 9), (8, 2), (8, 3), (8, 4), (8, 5), (8, 6), (8, 7), (8, 8), (8, 9), (8, 10), (8, 11), (8, 12), (6, 2), (10, 1), (10, 2), (10, 3), (10, 4), (10, 5), (10, 6), (10, 7), (6, 3), (11, 1), (11, 2), (11, 3), (11, 4), (11, 5), (11, 6), (11, 7), (6, 4), (6, 5), (6, 0), (6, 1)]
def bi_6 : List Nat := [0, 1, 64, 73, 74, 75, 76, 77, 78, 79, 80, 128, 192, 194, 195, 196, 197, 138, 256, 263, 264, 265, 266, 267, 268, 269, 270, 271, 272, 320, 322, 323, 324, 325, 326, 384]
def bi1_6 : List Nat := [0, 1, 64, 73, 74, 75, 76, 77, 78, 79, 80, 128, 192, 194, 195, 196, 197, 138, 256, 263, 264, 265, 266, 267, 268, 269, 270, 271, 272, 320, 322, 323, 324, 325, 326, 384, 512, 515, 516, 517, 518, 519, 520, 521, 522, 523, 524, 525, 640, 642, 643, 644, 645, 646, 647, 648, 704, 706, 707, 708, 709, 710, 711, 712, 390]
theorem cn_6 {d : Nat} {σ : am_St} (hz : σ = (am_sI (am_sI (am_sI si_C 0 1 0) 0 4 0) 0 5 (-1))) : am_D false ya_1_init (d + 2) 29 9229 [.ref (am_oid 6), .ref (am_oid 4), .ref (am_oid 5)] σ bj_6 bi_6 bj1_6 bi1_6 (fun τ => τ = σ) := by
  subst hz
  refine am_Benter rfl rfl (by decide) (by decide) ?_
  refine ab_aload_n (i := 0) (x := am_oid 6) (am_dec td_1_init 0 rfl) rfl rfl ?_
  refine ab_obj (am_dec td_1_init 1 rfl) ⟨am_in2 80 rfl rfl, am_in1 31 rfl rfl, am_in1 32 rfl rfl⟩ (by decide) (by omega) ?_
  refine ab_aload_n (i := 0) (x := am_oid 6) (am_dec td_1_init 2 rfl) rfl rfl ?_
  refine ab_new (o := 8) (ci := 5) (i := am_oid 8) (am_dec td_1_init 3 rfl) ⟨na_R5, na_F5, 13, rfl, am_in2 81 rfl rfl, am_in2 82 rfl rfl, am_in1 8 rfl rfl⟩ rfl (by decide) ⟨fun k => by simp [am_I_sI, am_I_si], rfl⟩ rfl (by decide) (by decide +kernel) (by decide +kernel) (by decide +kernel) (by decide +kernel) (by decide +kernel) (by decide +kernel) (by decide +kernel) (by decide +kernel) ?_
  refine ab_dup (am_dec td_1_init 4 rfl) ?_
  refine ab_eq (J' := bj_8) (I' := bi_8) (by decide +kernel) (by decide +kernel) ?_
  refine ab_call (x := am_oid 8) (as := []) (rest := [.ref (am_oid 8), .ref (am_oid 6)]) (am_dec td_1_init 5 rfl) ⟨Or.inr (fun U q => q.2.2.2.1), am_in2 84 rfl rfl, am_in1 8 rfl rfl, am_in2 85 rfl rfl, rfl, rfl, by decide, by decide, by decide +kernel, by decide⟩ rfl rfl (by decide) (cn_8 (d := d) rfl) (by decide +kernel) (by decide +kernel) (by decide +kernel) (by decide +kernel) (by decide +kernel) (fun τ hτ => ?_)
  subst hτ
  refine ab_put (o := 6) (am_dec td_1_init 6 rfl) fl_1_12 rfl (by decide) rfl (by decide) rfl (by decide +kernel) ?_
  refine ab_aload_n (i := 0) (x := am_oid 6) (am_dec td_1_init 7 rfl) rfl rfl ?_
  refine ab_new (o := 10) (ci := 8) (i := am_oid 10) (am_dec td_1_init 8 rfl) ⟨na_R8, na_F8, 8, rfl, am_in2 144 rfl rfl, am_in2 145 rfl rfl, am_in1 9 rfl rfl⟩ rfl (by decide) ⟨fun k => by simp [am_I_sI, am_I_si], rfl⟩ rfl (by decide) (by decide +kernel) (by decide +kernel) (by decide +kernel) (by decide +kernel) (by decide +kernel) (by decide +kernel) (by decide +kernel) (by decide +kernel) ?_
  refine ab_dup (am_dec td_1_init 9 rfl) ?_
  refine ab_eq (J' := bj_10) (I' := bi_10) (by decide +kernel) (by decide +kernel) ?_
  refine ab_call (x := am_oid 10) (as := []) (rest := [.ref (am_oid 10), .ref (am_oid 6)]) (am_dec td_1_init 10 rfl) ⟨Or.inr (fun U q => q.2.2.2.2), am_in2 147 rfl rfl, am_in1 9 rfl rfl, am_in2 148 rfl rfl, rfl, rfl, by decide, by decide, by decide +kernel, by decide⟩ rfl rfl (by decide) (cn_10 (d := d) rfl) (by decide +kernel) (by decide +kernel) (by decide +kernel) (by decide +kernel) (by decide +kernel) (fun τ hτ => ?_)
  subst hτ
  refine ab_put (o := 6) (am_dec td_1_init 11 rfl) fl_1_21 rfl (by decide) rfl (by decide) rfl (by decide +kernel) ?_
  refine ab_aload_n (i := 0) (x := am_oid 6) (am_dec td_1_init 12 rfl) rfl rfl ?_
  refine ab_new (o := 11) (ci := 8) (i := am_oid 11) (am_dec td_1_init 13 rfl) ⟨na_R8, na_F8, 8, rfl, am_in2 144 rfl rfl, am_in2 145 rfl rfl, am_in1 9 rfl rfl⟩ rfl (by decide) ⟨fun k => by simp [am_I_sI, am_I_si], rfl⟩ rfl (by decide) (by decide +kernel) (by decide +kernel) (by decide +kernel) (by decide +kernel) (by decide +kernel) (by decide +kernel) (by decide +kernel) (by decide +kernel) ?_
  refine ab_dup (am_dec td_1_init 14 rfl) ?_
  refine ab_eq (J' := bj_11) (I' := bi_11) (by decide +kernel) (by decide +kernel) ?_
  refine ab_call (x := am_oid 11) (as := []) (rest := [.ref (am_oid 11), .ref (am_oid 6)]) (am_dec td_1_init 15 rfl) ⟨Or.inr (fun U q => q.2.2.2.2), am_in2 147 rfl rfl, am_in1 9 rfl rfl, am_in2 148 rfl rfl, rfl, rfl, by decide, by decide, by decide +kernel, by decide⟩ rfl rfl (by decide) (cn_11 (d := d) rfl) (by decide +kernel) (by decide +kernel) (by decide +kernel) (by decide +kernel) (by decide +kernel) (fun τ hτ => ?_)
  subst hτ
  refine ab_put (o := 6) (am_dec td_1_init 16 rfl) fl_1_25 rfl (by decide) rfl (by decide) rfl (by decide +kernel) ?_
  refine ab_aload_n (i := 0) (x := am_oid 6) (am_dec td_1_init 17 rfl) rfl rfl ?_
  refine ab_sipush (v := 600) (am_dec td_1_init 18 rfl) (by decide) ?_
  refine ab_newa (ci := 1) (o := 6) (k := 5) (t := 2) (N := 600) (i := am_aid 6 5) (am_dec td_1_init 19 rfl) rfl (am_in1 115 rfl rfl) rfl (by decide) rfl (by decide) (by decide) rfl rfl (by decide) (by decide +kernel) (by decide +kernel) (by decide +kernel) (by decide +kernel) (by decide +kernel) (by decide +kernel) (by decide +kernel) ?_
  refine ab_put (o := 6) (am_dec td_1_init 20 rfl) fl_1_28 rfl (by decide) rfl (by decide) rfl (by decide +kernel) ?_
  refine ab_aload_n (i := 0) (x := am_oid 6) (am_dec td_1_init 21 rfl) rfl rfl ?_
  refine ab_aload_n (i := 1) (x := am_oid 4) (am_dec td_1_init 22 rfl) rfl rfl ?_
  refine ab_put (o := 6) (am_dec td_1_init 23 rfl) fl_1_32 rfl (by decide) rfl (by decide) rfl (by decide +kernel) ?_
  refine ab_aload_n (i := 0) (x := am_oid 6) (am_dec td_1_init 24 rfl) rfl rfl ?_
  refine ab_aload_n (i := 2) (x := am_oid 5) (am_dec td_1_init 25 rfl) rfl rfl ?_
  refine ab_put (o := 6) (am_dec td_1_init 26 rfl) fl_1_36 rfl (by decide) rfl (by decide) rfl (by decide +kernel) ?_
  exact ab_ret (am_dec td_1_init 27 rfl) rfl (by decide +kernel) (by decide +kernel) (by decide +kernel) (by decide +kernel) rfl
def bj_9 : List (Nat × Nat) := [(0, 0), (1, 8), (1, 9), (1, 10), (1, 11), (1, 12), (1, 13), (1, 14), (1, 15), (0, 2), (3, 1), (3, 2), (3, 3), (3, 4), (2, 1), (2, 9), (2, 0), (0, 3), (4, 6), (4, 7), (4, 8), (4, 9), (4, 10), (4, 11), (4, 12), (4, 13), (4, 14), (4, 15), (0, 6), (5, 1), (5, 2), (5, 3), (5, 4), (5, 5), (5, 0), (0, 9), (8, 2), (8, 3), (8, 4), (8, 5), (8, 6), (8, 7), (8, 8), (8, 9), (8, 10), (8, 11), (8, 12), (6, 2), (10, 1), (10, 2), (10, 3), (10, 4), (10, 5), (10, 6), (10, 7), (6, 3), (11, 1), (11, 2), (11, 3), (11, 4), (11, 5), (11, 6), (11, 7), (6, 4), (6, 5), (6, 0), (6, 1), (0, 7)]
def bj1_9 : List (Nat × Nat) := [(0, 0), (1, 8), (1, 9), (1, 10), (1, 11), (1, 12), (1, 13), (1, 14), (1, 15), (0, 2), (3, 1), (3, 2), (3, 3), (3, 4), (2, 1), (2, 9), (2, 0), (0, 3), (4, 6), (4, 7), (4, 8), (4, 9), (4, 10), (4, 11), (4, 12), (4, 13), (4, 14), (4, 15), (0, 6), (5, 1), (5, 2), (5, 3), (5, 4), (5, 5), (5, 0), (0, 9), (8, 2), (8, 3), (8, 4), (8, 5), (8, 6), (8, 7), (8, 8), (8, 9), (8, 10), (8, 11), (8, 12), (6, 2), (10, 1), (10, 2), (10, 3), (10, 4), (10, 5), (10, 6), (10, 7), (6, 3), (11, 1), (11, 2), (11, 3), (11, 4), (11, 5), (11, 6), (11, 7), (6, 4), (6, 5), (6, 0), (6, 1), (0, 7), (9, 2), (9, 3), (9, 4), (9, 5), (9, 6), (9, 7), (9, 8), (9, 9), (9, 10), (9, 11), (9, 12)]
def bi_9 : List Nat := [0, 1, 64, 73, 74, 75, 76, 77, 78, 79, 80, 128, 192, 194, 195, 196, 197, 138, 256, 263, 264, 265, 266, 267, 268, 269, 270, 271, 272, 320, 322, 323, 324, 325, 326, 384, 512, 515, 516, 517, 518, 519, 520, 521, 522, 523, 524, 525, 640, 642, 643, 644, 645, 646, 647, 648, 704, 706, 707, 708, 709, 710, 711, 712, 390, 448, 576]
def bi1_9 : List Nat := [0, 1, 64, 73, 74, 75, 76, 77, 78, 79, 80, 128, 192, 194, 195, 196, 197, 138, 256, 263, 264, 265, 266, 267, 268, 269, 270, 271, 272, 320, 322, 323, 324, 325, 326, 384, 512, 515, 516, 517, 518, 519, 520, 521, 522, 523, 524, 525, 640, 642, 643, 644, 645, 646, 647, 648, 704, 706, 707, 708, 709, 710, 711, 712, 390, 448, 576, 579, 580, 581, 582, 583, 584, 585, 586, 587, 588, 589]
theorem cn_9 {d : Nat} {σ : am_St} (hz : σ = (am_sI (am_sI (am_sI si_C 0 1 0) 0 4 0) 0 5 (-1))) : am_D false ya_5_init (d + 1) 11 3000 [.ref (am_oid 9)] σ bj_9 bi_9 bj1_9 bi1_9 (fun τ => τ = σ) := by
  subst hz
  refine am_Benter rfl rfl (by decide) (by decide) ?_
  refine ab_aload_n (i := 0) (x := am_oid 9) (am_dec td_5_init 0 rfl) rfl rfl ?_
  refine ab_obj (am_dec td_5_init 1 rfl) ⟨am_in2 86 rfl rfl, am_in1 31 rfl rfl, am_in1 32 rfl rfl⟩ (by decide) (by omega) ?_
  refine ab_aload_n (i := 0) (x := am_oid 9) (am_dec td_5_init 2 rfl) rfl rfl ?_
  refine ab_sipush (v := 200) (am_dec td_5_init 3 rfl) (by decide) ?_
  refine ab_newa (ci := 5) (o := 9) (k := 2) (t := 0) (N := 200) (i := am_aid 9 2) (am_dec td_5_init 4 rfl) rfl (am_in1 114 rfl rfl) rfl (by decide) rfl (by decide) (by decide) rfl rfl (by decide) (by decide +kernel) (by decide +kernel) (by decide +kernel) (by decide +kernel) (by decide +kernel) (by decide +kernel) (by decide +kernel) ?_
  refine ab_put (o := 9) (am_dec td_5_init 5 rfl) fl_5_9 rfl (by decide) rfl (by decide) rfl (by decide +kernel) ?_
  refine ab_aload_n (i := 0) (x := am_oid 9) (am_dec td_5_init 6 rfl) rfl rfl ?_
  refine ab_sipush (v := 200) (am_dec td_5_init 7 rfl) (by decide) ?_
  refine ab_newa (ci := 5) (o := 9) (k := 3) (t := 0) (N := 200) (i := am_aid 9 3) (am_dec td_5_init 8 rfl) rfl (am_in1 114 rfl rfl) rfl (by decide) rfl (by decide) (by decide) rfl rfl (by decide) (by decide +kernel) (by decide +kernel) (by decide +kernel) (by decide +kernel) (by decide +kernel) (by decide +kernel) (by decide +kernel) ?_
  refine ab_put (o := 9) (am_dec td_5_init 9 rfl) fl_5_15 rfl (by decide) rfl (by decide) rfl (by decide +kernel) ?_
  refine ab_aload_n (i := 0) (x := am_oid 9) (am_dec td_5_init 10 rfl) rfl rfl ?_
  refine ab_sipush (v := 300) (am_dec td_5_init 11 rfl) (by decide) ?_
  refine ab_newa (ci := 5) (o := 9) (k := 4) (t := 0) (N := 300) (i := am_aid 9 4) (am_dec td_5_init 12 rfl) rfl (am_in1 114 rfl rfl) rfl (by decide) rfl (by decide) (by decide) rfl rfl (by decide) (by decide +kernel) (by decide +kernel) (by decide +kernel) (by decide +kernel) (by decide +kernel) (by decide +kernel) (by decide +kernel) ?_
  refine ab_put (o := 9) (am_dec td_5_init 13 rfl) fl_5_18 rfl (by decide) rfl (by decide) rfl (by decide +kernel) ?_
  refine ab_aload_n (i := 0) (x := am_oid 9) (am_dec td_5_init 14 rfl) rfl rfl ?_
  refine ab_sipush (v := 300) (am_dec td_5_init 15 rfl) (by decide) ?_
  refine ab_newa (ci := 5) (o := 9) (k := 5) (t := 0) (N := 300) (i := am_aid 9 5) (am_dec td_5_init 16 rfl) rfl (am_in1 114 rfl rfl) rfl (by decide) rfl (by decide) (by decide) rfl rfl (by decide) (by decide +kernel) (by decide +kernel) (by decide +kernel) (by decide +kernel) (by decide +kernel) (by decide +kernel) (by decide +kernel) ?_
  refine ab_put (o := 9) (am_dec td_5_init 17 rfl) fl_5_21 rfl (by decide) rfl (by decide) rfl (by decide +kernel) ?_
  refine ab_aload_n (i := 0) (x := am_oid 9) (am_dec td_5_init 18 rfl) rfl rfl ?_
  refine ab_sipush (v := 600) (am_dec td_5_init 19 rfl) (by decide) ?_
  refine ab_newa (ci := 5) (o := 9) (k := 6) (t := 0) (N := 600) (i := am_aid 9 6) (am_dec td_5_init 20 rfl) rfl (am_in1 114 rfl rfl) rfl (by decide) rfl (by decide) (by decide) rfl rfl (by decide) (by decide +kernel) (by decide +kernel) (by decide +kernel) (by decide +kernel) (by decide +kernel) (by decide +kernel) (by decide +kernel) ?_
  refine ab_put (o := 9) (am_dec td_5_init 21 rfl) fl_5_24 rfl (by decide) rfl (by decide) rfl (by decide +kernel) ?_
  refine ab_aload_n (i := 0) (x := am_oid 9) (am_dec td_5_init 22 rfl) rfl rfl ?_
  refine ab_sipush (v := 200) (am_dec td_5_init 23 rfl) (by decide) ?_
  refine ab_newa (ci := 5) (o := 9) (k := 7) (t := 0) (N := 200) (i := am_aid 9 7) (am_dec td_5_init 24 rfl) rfl (am_in1 114 rfl rfl) rfl (by decide) rfl (by decide) (by decide) rfl rfl (by decide) (by decide +kernel) (by decide +kernel) (by decide +kernel) (by decide +kernel) (by decide +kernel) (by decide +kernel) (by decide +kernel) ?_
  refine ab_put (o := 9) (am_dec td_5_init 25 rfl) fl_5_27 rfl (by decide) rfl (by decide) rfl (by decide +kernel) ?_
  refine ab_aload_n (i := 0) (x := am_oid 9) (am_dec td_5_init 26 rfl) rfl rfl ?_
  refine ab_sipush (v := 300) (am_dec td_5_init 27 rfl) (by decide) ?_
  refine ab_newa (ci := 5) (o := 9) (k := 8) (t := 0) (N := 300) (i := am_aid 9 8) (am_dec td_5_init 28 rfl) rfl (am_in1 114 rfl rfl) rfl (by decide) rfl (by decide) (by decide) rfl rfl (by decide) (by decide +kernel) (by decide +kernel) (by decide +kernel) (by decide +kernel) (by decide +kernel) (by decide +kernel) (by decide +kernel) ?_
  refine ab_put (o := 9) (am_dec td_5_init 29 rfl) fl_5_30 rfl (by decide) rfl (by decide) rfl (by decide +kernel) ?_
  refine ab_aload_n (i := 0) (x := am_oid 9) (am_dec td_5_init 30 rfl) rfl rfl ?_
  refine ab_sipush (v := 200) (am_dec td_5_init 31 rfl) (by decide) ?_
  refine ab_newa (ci := 5) (o := 9) (k := 9) (t := 0) (N := 200) (i := am_aid 9 9) (am_dec td_5_init 32 rfl) rfl (am_in1 114 rfl rfl) rfl (by decide) rfl (by decide) (by decide) rfl rfl (by decide) (by decide +kernel) (by decide +kernel) (by decide +kernel) (by decide +kernel) (by decide +kernel) (by decide +kernel) (by decide +kernel) ?_
  refine ab_put (o := 9) (am_dec td_5_init 33 rfl) fl_5_33 rfl (by decide) rfl (by decide) rfl (by decide +kernel) ?_
  refine ab_aload_n (i := 0) (x := am_oid 9) (am_dec td_5_init 34 rfl) rfl rfl ?_
  refine ab_sipush (v := 300) (am_dec td_5_init 35 rfl) (by decide) ?_
  refine ab_newa (ci := 5) (o := 9) (k := 10) (t := 0) (N := 300) (i := am_aid 9 10) (am_dec td_5_init 36 rfl) rfl (am_in1 114 rfl rfl) rfl (by decide) rfl (by decide) (by decide) rfl rfl (by decide) (by decide +kernel) (by decide +kernel) (by decide +kernel) (by decide +kernel) (by decide +kernel) (by decide +kernel) (by decide +kernel) ?_
  refine ab_put (o := 9) (am_dec td_5_init 37 rfl) fl_5_36 rfl (by decide) rfl (by decide) rfl (by decide +kernel) ?_
  refine ab_aload_n (i := 0) (x := am_oid 9) (am_dec td_5_init 38 rfl) rfl rfl ?_
  refine ab_sipush (v := 200) (am_dec td_5_init 39 rfl) (by decide) ?_
  refine ab_newa (ci := 5) (o := 9) (k := 11) (t := 0) (N := 200) (i := am_aid 9 11) (am_dec td_5_init 40 rfl) rfl (am_in1 114 rfl rfl) rfl (by decide) rfl (by decide) (by decide) rfl rfl (by decide) (by decide +kernel) (by decide +kernel) (by decide +kernel) (by decide +kernel) (by decide +kernel) (by decide +kernel) (by decide +kernel) ?_
  refine ab_put (o := 9) (am_dec td_5_init 41 rfl) fl_5_39 rfl (by decide) rfl (by decide) rfl (by decide +kernel) ?_
  refine ab_aload_n (i := 0) (x := am_oid 9) (am_dec td_5_init 42 rfl) rfl rfl ?_
  refine ab_sipush (v := 200) (am_dec td_5_init 43 rfl) (by decide) ?_
  refine ab_newa (ci := 5) (o := 9) (k := 12) (t := 0) (N := 200) (i := am_aid 9 12) (am_dec td_5_init 44 rfl) rfl (am_in1 114 rfl rfl) rfl (by decide) rfl (by decide) (by decide) rfl rfl (by decide) (by decide +kernel) (by decide +kernel) (by decide +kernel) (by decide +kernel) (by decide +kernel) (by decide +kernel) (by decide +kernel) ?_
  refine ab_put (o := 9) (am_dec td_5_init 45 rfl) fl_5_42 rfl (by decide) rfl (by decide) rfl (by decide +kernel) ?_
  exact ab_ret (am_dec td_5_init 46 rfl) rfl (by decide +kernel) (by decide +kernel) (by decide +kernel) (by decide +kernel) rfl
def bj_12 : List (Nat × Nat) := [(0, 0), (1, 8), (1, 9), (1, 10), (1, 11), (1, 12), (1, 13), (1, 14), (1, 15), (0, 2), (3, 1), (3, 2), (3, 3), (3, 4), (2, 1), (2, 9), (2, 0), (0, 3), (4, 6), (4, 7), (4, 8), (4, 9), (4, 10), (4, 11), (4, 12), (4, 13), (4, 14), (4, 15), (0, 6), (5, 1), (5, 2), (5, 3), (5, 4), (5, 5), (5, 0), (0, 9), (8, 2), (8, 3), (8, 4), (8, 5), (8, 6), (8, 7), (8, 8), (8, 9), (8, 10), (8, 11), (8, 12), (6, 2), (10, 1), (10, 2), (10, 3), (10, 4), (10, 5), (10, 6), (10, 7), (6, 3), (11, 1), (11, 2), (11, 3), (11, 4), (11, 5), (11, 6), (11, 7), (6, 4), (6, 5), (6, 0), (6, 1), (0, 7), (9, 2), (9, 3), (9, 4), (9, 5), (9, 6), (9, 7), (9, 8), (9, 9), (9, 10), (9, 11), (9, 12), (7, 2)]
def bj1_12 : List (Nat × Nat) := [(0, 0), (1, 8), (1, 9), (1, 10), (1, 11), (1, 12), (1, 13), (1, 14), (1, 15), (0, 2), (3, 1), (3, 2), (3, 3), (3, 4), (2, 1), (2, 9), (2, 0), (0, 3), (4, 6), (4, 7), (4, 8), (4, 9), (4, 10), (4, 11), (4, 12), (4, 13), (4, 14), (4, 15), (0, 6), (5, 1), (5, 2), (5, 3), (5, 4), (5, 5), (5, 0), (0, 9), (8, 2), (8, 3), (8, 4), (8, 5), (8, 6), (8, 7), (8, 8), (8, 9), (8, 10), (8, 11), (8, 12), (6, 2), (10, 1), (10, 2), (10, 3), (10, 4), (10, 5), (10, 6), (10, 7), (6, 3), (11, 1), (11, 2), (11, 3), (11, 4), (11, 5), (11, 6), (11, 7), (6, 4), (6, 5), (6, 0), (6, 1), (0, 7), (9, 2), (9, 3), (9, 4), (9, 5), (9, 6), (9, 7), (9, 8), (9, 9), (9, 10), (9, 11), (9, 12), (7, 2), (12, 1), (12, 2), (12, 3), (12, 4), (12, 5), (12, 6), (12, 7)]
def bi_12 : List Nat := [0, 1, 64, 73, 74, 75, 76, 77, 78, 79, 80, 128, 192, 194, 195, 196, 197, 138, 256, 263, 264, 265, 266, 267, 268, 269, 270, 271, 272, 320, 322, 323, 324, 325, 326, 384, 512, 515, 516, 517, 518, 519, 520, 521, 522, 523, 524, 525, 640, 642, 643, 644, 645, 646, 647, 648, 704, 706, 707, 708, 709, 710, 711, 712, 390, 448, 576, 579, 580, 581, 582, 583, 584, 585, 586, 587, 588, 589, 768]
def bi1_12 : List Nat := [0, 1, 64, 73, 74, 75, 76, 77, 78, 79, 80, 128, 192, 194, 195, 196, 197, 138, 256, 263, 264, 265, 266, 267, 268, 269, 270, 271, 272, 320, 322, 323, 324, 325, 326, 384, 512, 515, 516, 517, 518, 519, 520, 521, 522, 523, 524, 525, 640, 642, 643, 644, 645, 646, 647, 648, 704, 706, 707, 708, 709, 710, 711, 712, 390, 448, 576, 579, 580, 581, 582, 583, 584, 585, 586, 587, 588, 589, 768, 770, 771, 772, 773, 774, 775, 776]
theorem cn_12 {d : Nat} {σ : am_St} (hz : σ = (am_sI (am_sI (am_sI si_C 0 1 0) 0 4 0) 0 5 (-1))) : am_D false ya_8_init (d + 1) 7 2800 [.ref (am_oid 12)] σ bj_12 bi_12 bj1_12 bi1_12 (fun τ => τ = σ) := by
  subst hz
  refine am_Benter rfl rfl (by decide) (by decide) ?_
  refine ab_aload_n (i := 0) (x := am_oid 12) (am_dec td_8_init 0 rfl) rfl rfl ?_
  refine ab_obj (am_dec td_8_init 1 rfl) ⟨am_in2 149 rfl rfl, am_in1 31 rfl rfl, am_in1 32 rfl rfl⟩ (by decide) (by omega) ?_
  refine ab_aload_n (i := 0) (x := am_oid 12) (am_dec td_8_init 2 rfl) rfl rfl ?_
  refine ab_sipush (v := 400) (am_dec td_8_init 3 rfl) (by decide) ?_
  refine ab_newa (ci := 8) (o := 12) (k := 1) (t := 0) (N := 400) (i := am_aid 12 1) (am_dec td_8_init 4 rfl) rfl (am_in1 114 rfl rfl) rfl (by decide) rfl (by decide) (by decide) rfl rfl (by decide) (by decide +kernel) (by decide +kernel) (by decide +kernel) (by decide +kernel) (by decide +kernel) (by decide +kernel) (by decide +kernel) ?_
  refine ab_put (o := 12) (am_dec td_8_init 5 rfl) fl_8_9 rfl (by decide) rfl (by decide) rfl (by decide +kernel) ?_
  refine ab_aload_n (i := 0) (x := am_oid 12) (am_dec td_8_init 6 rfl) rfl rfl ?_
  refine ab_sipush (v := 400) (am_dec td_8_init 7 rfl) (by decide) ?_
  refine ab_newa (ci := 8) (o := 12) (k := 2) (t := 0) (N := 400) (i := am_aid 12 2) (am_dec td_8_init 8 rfl) rfl (am_in1 114 rfl rfl) rfl (by decide) rfl (by decide) (by decide) rfl rfl (by decide) (by decide +kernel) (by decide +kernel) (by decide +kernel) (by decide +kernel) (by decide +kernel) (by decide +kernel) (by decide +kernel) ?_
  refine ab_put (o := 12) (am_dec td_8_init 9 rfl) fl_8_15 rfl (by decide) rfl (by decide) rfl (by decide +kernel) ?_
  refine ab_aload_n (i := 0) (x := am_oid 12) (am_dec td_8_init 10 rfl) rfl rfl ?_
  refine ab_sipush (v := 400) (am_dec td_8_init 11 rfl) (by decide) ?_
  refine ab_newa (ci := 8) (o := 12) (k := 3) (t := 0) (N := 400) (i := am_aid 12 3) (am_dec td_8_init 12 rfl) rfl (am_in1 114 rfl rfl) rfl (by decide) rfl (by decide) (by decide) rfl rfl (by decide) (by decide +kernel) (by decide +kernel) (by decide +kernel) (by decide +kernel) (by decide +kernel) (by decide +kernel) (by decide +kernel) ?_
  refine ab_put (o := 12) (am_dec td_8_init 13 rfl) fl_8_18 rfl (by decide) rfl (by decide) rfl (by decide +kernel) ?_
  refine ab_aload_n (i := 0) (x := am_oid 12) (am_dec td_8_init 14 rfl) rfl rfl ?_
  refine ab_sipush (v := 400) (am_dec td_8_init 15 rfl) (by decide) ?_
  refine ab_newa (ci := 8) (o := 12) (k := 4) (t := 0) (N := 400) (i := am_aid 12 4) (am_dec td_8_init 16 rfl) rfl (am_in1 114 rfl rfl) rfl (by decide) rfl (by decide) (by decide) rfl rfl (by decide) (by decide +kernel) (by decide +kernel) (by decide +kernel) (by decide +kernel) (by decide +kernel) (by decide +kernel) (by decide +kernel) ?_
  refine ab_put (o := 12) (am_dec td_8_init 17 rfl) fl_8_21 rfl (by decide) rfl (by decide) rfl (by decide +kernel) ?_
  refine ab_aload_n (i := 0) (x := am_oid 12) (am_dec td_8_init 18 rfl) rfl rfl ?_
  refine ab_sipush (v := 400) (am_dec td_8_init 19 rfl) (by decide) ?_
  refine ab_newa (ci := 8) (o := 12) (k := 5) (t := 0) (N := 400) (i := am_aid 12 5) (am_dec td_8_init 20 rfl) rfl (am_in1 114 rfl rfl) rfl (by decide) rfl (by decide) (by decide) rfl rfl (by decide) (by decide +kernel) (by decide +kernel) (by decide +kernel) (by decide +kernel) (by decide +kernel) (by decide +kernel) (by decide +kernel) ?_
  refine ab_put (o := 12) (am_dec td_8_init 21 rfl) fl_8_24 rfl (by decide) rfl (by decide) rfl (by decide +kernel) ?_
  refine ab_aload_n (i := 0) (x := am_oid 12) (am_dec td_8_init 22 rfl) rfl rfl ?_
  refine ab_sipush (v := 400) (am_dec td_8_init 23 rfl) (by decide) ?_
  refine ab_newa (ci := 8) (o := 12) (k := 6) (t := 0) (N := 400) (i := am_aid 12 6) (am_dec td_8_init 24 rfl) rfl (am_in1 114 rfl rfl) rfl (by decide) rfl (by decide) (by decide) rfl rfl (by decide) (by decide +kernel) (by decide +kernel) (by decide +kernel) (by decide +kernel) (by decide +kernel) (by decide +kernel) (by decide +kernel) ?_
  refine ab_put (o := 12) (am_dec td_8_init 25 rfl) fl_8_27 rfl (by decide) rfl (by decide) rfl (by decide +kernel) ?_
  refine ab_aload_n (i := 0) (x := am_oid 12) (am_dec td_8_init 26 rfl) rfl rfl ?_
  refine ab_sipush (v := 400) (am_dec td_8_init 27 rfl) (by decide) ?_
  refine ab_newa (ci := 8) (o := 12) (k := 7) (t := 0) (N := 400) (i := am_aid 12 7) (am_dec td_8_init 28 rfl) rfl (am_in1 114 rfl rfl) rfl (by decide) rfl (by decide) (by decide) rfl rfl (by decide) (by decide +kernel) (by decide +kernel) (by decide +kernel) (by decide +kernel) (by decide +kernel) (by decide +kernel) (by decide +kernel) ?_
  refine ab_put (o := 12) (am_dec td_8_init 29 rfl) fl_8_30 rfl (by decide) rfl (by decide) rfl (by decide +kernel) ?_
  exact ab_ret (am_dec td_8_init 30 rfl) rfl (by decide +kernel) (by decide +kernel) (by decide +kernel) (by decide +kernel) rfl
def bj_13 : List (Nat × Nat) := [(0, 0), (1, 8), (1, 9), (1, 10), (1, 11), (1, 12), (1, 13), (1, 14), (1, 15), (0, 2), (3, 1), (3, 2), (3, 3), (3, 4), (2, 1), (2, 9), (2, 0), (0, 3), (4, 6), (4, 7), (4, 8), (4, 9), (4, 10), (4, 11), (4, 12), (4, 13), (4, 14), (4, 15), (0, 6), (5, 1), (5, 2), (5, 3), (5, 4), (5, 5), (5, 0), (0, 9), (8, 2), (8, 3), (8, 4), (8, 5), (8, 6), (8, 7), (8, 8), (8, 9), (8, 10), (8, 11), (8, 12), (6, 2), (10, 1), (10, 2), (10, 3), (10, 4), (10, 5), (10, 6), (10, 7), (6, 3), (11, 1), (11, 2), (11, 3), (11, 4), (11, 5), (11, 6), (11, 7), (6, 4), (6, 5), (6, 0), (6, 1), (0, 7), (9, 2), (9, 3), (9, 4), (9, 5), (9, 6), (9, 7), (9, 8), (9, 9), (9, 10), (9, 11), (9, 12), (7, 2), (12, 1), (12, 2), (12, 3), (12, 4), (12, 5), (12, 6), (12, 7), (7, 3)]
def bj1_13 : List (Nat × Nat) := [(0, 0), (1, 8), (1, 9), (1, 10), (1, 11), (1, 12), (1, 13), (1, 14), (1, 15), (0, 2), (3, 1), (3, 2), (3, 3), (3, 4), (2, 1), (2, 9), (2, 0), (0, 3), (4, 6), (4, 7), (4, 8), (4, 9), (4, 10), (4, 11), (4, 12), (4, 13), (4, 14), (4, 15), (0, 6), (5, 1), (5, 2), (5, 3), (5, 4), (5, 5), (5, 0), (0, 9), (8, 2), (8, 3), (8, 4), (8, 5), (8, 6), (8, 7), (8, 8), (8, 9), (8, 10), (8, 11), (8, 12), (6, 2), (10, 1), (10, 2), (10, 3), (10, 4), (10, 5), (10, 6), (10, 7), (6, 3), (11, 1), (11, 2), (11, 3), (11, 4), (11, 5), (11, 6), (11, 7), (6, 4), (6, 5), (6, 0), (6, 1), (0, 7), (9, 2), (9, 3), (9, 4), (9, 5), (9, 6), (9, 7), (9, 8), (9, 9), (9, 10), (9, 11), (9, 12), (7, 2), (12, 1), (12, 2), (12, 3), (12, 4), (12, 5), (12, 6), (12, 7), (7, 3), (13, 1), (13, 2), (13, 3), (13, 4), (13, 5), (13, 6), (13, 7)]
def bi_13 : List Nat := [0, 1, 64, 73, 74, 75, 76, 77, 78, 79, 80, 128, 192, 194, 195, 196, 197, 138, 256, 263, 264, 265, 266, 267, 268, 269, 270, 271, 272, 320, 322, 323, 324, 325, 326, 384, 512, 515, 516, 517, 518, 519, 520, 521, 522, 523, 524, 525, 640, 642, 643, 644, 645, 646, 647, 648, 704, 706, 707, 708, 709, 710, 711, 712, 390, 448, 576, 579, 580, 581, 582, 583, 584, 585, 586, 587, 588, 589, 768, 770, 771, 772, 773, 774, 775, 776, 832]
def bi1_13 : List Nat := [0, 1, 64, 73, 74, 75, 76, 77, 78, 79, 80, 128, 192, 194, 195, 196, 197, 138, 256, 263, 264, 265, 266, 267, 268, 269, 270, 271, 272, 320, 322, 323, 324, 325, 326, 384, 512, 515, 516, 517, 518, 519, 520, 521, 522, 523, 524, 525, 640, 642, 643, 644, 645, 646, 647, 648, 704, 706, 707, 708, 709, 710, 711, 712, 390, 448, 576, 579, 580, 581, 582, 583, 584, 585, 586, 587, 588, 589, 768, 770, 771, 772, 773, 774, 775, 776, 832, 834, 835, 836, 837, 838, 839, 840]
theorem cn_13 {d : Nat} {σ : am_St} (hz : σ = (am_sI (am_sI (am_sI si_C 0 1 0) 0 4 0) 0 5 (-1))) : am_D false ya_8_init (d + 1) 7 2800 [.ref (am_oid 13)] σ bj_13 bi_13 bj1_13 bi1_13 (fun τ => τ = σ) := by
  subst hz
  refine am_Benter rfl rfl (by decide) (by decide) ?_
  refine ab_aload_n (i := 0) (x := am_oid 13) (am_dec td_8_init 0 rfl) rfl rfl ?_
  refine ab_obj (am_dec td_8_init 1 rfl) ⟨am_in2 149 rfl rfl, am_in1 31 rfl rfl, am_in1 32 rfl rfl⟩ (by decide) (by omega) ?_
  refine ab_aload_n (i := 0) (x := am_oid 13) (am_dec td_8_init 2 rfl) rfl rfl ?_
  refine ab_sipush (v := 400) (am_dec td_8_init 3 rfl) (by decide) ?_
  refine ab_newa (ci := 8) (o := 13) (k := 1) (t := 0) (N := 400) (i := am_aid 13 1) (am_dec td_8_init 4 rfl) rfl (am_in1 114 rfl rfl) rfl (by decide) rfl (by decide) (by decide) rfl rfl (by decide) (by decide +kernel) (by decide +kernel) (by decide +kernel) (by decide +kernel) (by decide +kernel) (by decide +kernel) (by decide +kernel) ?_
  refine ab_put (o := 13) (am_dec td_8_init 5 rfl) fl_8_9 rfl (by decide) rfl (by decide) rfl (by decide +kernel) ?_
  refine ab_aload_n (i := 0) (x := am_oid 13) (am_dec td_8_init 6 rfl) rfl rfl ?_
  refine ab_sipush (v := 400) (am_dec td_8_init 7 rfl) (by decide) ?_
  refine ab_newa (ci := 8) (o := 13) (k := 2) (t := 0) (N := 400) (i := am_aid 13 2) (am_dec td_8_init 8 rfl) rfl (am_in1 114 rfl rfl) rfl (by decide) rfl (by decide) (by decide) rfl rfl (by decide) (by decide +kernel) (by decide +kernel) (by decide +kernel) (by decide +kernel) (by decide +kernel) (by decide +kernel) (by decide +kernel) ?_
  refine ab_put (o := 13) (am_dec td_8_init 9 rfl) fl_8_15 rfl (by decide) rfl (by decide) rfl (by decide +kernel) ?_
  refine ab_aload_n (i := 0) (x := am_oid 13) (am_dec td_8_init 10 rfl) rfl rfl ?_
  refine ab_sipush (v := 400) (am_dec td_8_init 11 rfl) (by decide) ?_
  refine ab_newa (ci := 8) (o := 13) (k := 3) (t := 0) (N := 400) (i := am_aid 13 3) (am_dec td_8_init 12 rfl) rfl (am_in1 114 rfl rfl) rfl (by decide) rfl (by decide) (by decide) rfl rfl (by decide) (by decide +kernel) (by decide +kernel) (by decide +kernel) (by decide +kernel) (by decide +kernel) (by decide +kernel) (by decide +kernel) ?_
  refine ab_put (o := 13) (am_dec td_8_init 13 rfl) fl_8_18 rfl (by decide) rfl (by decide) rfl (by decide +kernel) ?_
  refine ab_aload_n (i := 0) (x := am_oid 13) (am_dec td_8_init 14 rfl) rfl rfl ?_
  refine ab_sipush (v := 400) (am_dec td_8_init 15 rfl) (by decide) ?_
  refine ab_newa (ci := 8) (o := 13) (k := 4) (t := 0) (N := 400) (i := am_aid 13 4) (am_dec td_8_init 16 rfl) rfl (am_in1 114 rfl rfl) rfl (by decide) rfl (by decide) (by decide) rfl rfl (by decide) (by decide +kernel) (by decide +kernel) (by decide +kernel) (by decide +kernel) (by decide +kernel) (by decide +kernel) (by decide +kernel) ?_
  refine ab_put (o := 13) (am_dec td_8_init 17 rfl) fl_8_21 rfl (by decide) rfl (by decide) rfl (by decide +kernel) ?_
  refine ab_aload_n (i := 0) (x := am_oid 13) (am_dec td_8_init 18 rfl) rfl rfl ?_
  refine ab_sipush (v := 400) (am_dec td_8_init 19 rfl) (by decide) ?_
  refine ab_newa (ci := 8) (o := 13) (k := 5) (t := 0) (N := 400) (i := am_aid 13 5) (am_dec td_8_init 20 rfl) rfl (am_in1 114 rfl rfl) rfl (by decide) rfl (by decide) (by decide) rfl rfl (by decide) (by decide +kernel) (by decide +kernel) (by decide +kernel) (by decide +kernel) (by decide +kernel) (by decide +kernel) (by decide +kernel) ?_
  refine ab_put (o := 13) (am_dec td_8_init 21 rfl) fl_8_24 rfl (by decide) rfl (by decide) rfl (by decide +kernel) ?_
  refine ab_aload_n (i := 0) (x := am_oid 13) (am_dec td_8_init 22 rfl) rfl rfl ?_
  refine ab_sipush (v := 400) (am_dec td_8_init 23 rfl) (by decide) ?_
  refine ab_newa (ci := 8) (o := 13) (k := 6) (t := 0) (N := 400) (i := am_aid 13 6) (am_dec td_8_init 24 rfl) rfl (am_in1 114 rfl rfl) rfl (by decide) rfl (by decide) (by decide) rfl rfl (by decide) (by decide +kernel) (by decide +kernel) (by decide +kernel) (by decide +kernel) (by decide +kernel) (by decide +kernel) (by decide +kernel) ?_
  refine ab_put (o := 13) (am_dec td_8_init 25 rfl) fl_8_27 rfl (by decide) rfl (by decide) rfl (by decide +kernel) ?_
  refine ab_aload_n (i := 0) (x := am_oid 13) (am_dec td_8_init 26 rfl) rfl rfl ?_
  refine ab_sipush (v := 400) (am_dec td_8_init 27 rfl) (by decide) ?_
  refine ab_newa (ci := 8) (o := 13) (k := 7) (t := 0) (N := 400) (i := am_aid 13 7) (am_dec td_8_init 28 rfl) rfl (am_in1 114 rfl rfl) rfl (by decide) rfl (by decide) (by decide) rfl rfl (by decide) (by decide +kernel) (by decide +kernel) (by decide +kernel) (by decide +kernel) (by decide +kernel) (by decide +kernel) (by decide +kernel) ?_
  refine ab_put (o := 13) (am_dec td_8_init 29 rfl) fl_8_30 rfl (by decide) rfl (by decide) rfl (by decide +kernel) ?_
  exact ab_ret (am_dec td_8_init 30 rfl) rfl (by decide +kernel) (by decide +kernel) (by decide +kernel) (by decide +kernel) rfl
def bj_7 : List (Nat × Nat) := [(0, 0), (1, 8), (1, 9), (1, 10), (1, 11), (1, 12), (1, 13), (1, 14), (1, 15), (0, 2), (3, 1), (3, 2), (3, 3), (3, 4), (2, 1), (2, 9), (2, 0), (0, 3), (4, 6), (4, 7), (4, 8), (4, 9), (4, 10), (4, 11), (4, 12), (4, 13), (4, 14), (4, 15), (0, 6), (5, 1), (5, 2), (5, 3), (5, 4), (5, 5), (5, 0), (0, 9), (8, 2), (8, 3), (8, 4), (8, 5), (8, 6), (8, 7), (8, 8), (8, 9), (8, 10), (8, 11), (8, 12), (6, 2), (10, 1), (10, 2), (10, 3), (10, 4), (10, 5), (10, 6), (10, 7), (6, 3), (11, 1), (11, 2), (11, 3), (11, 4), (11, 5), (11, 6), (11, 7), (6, 4), (6, 5), (6, 0), (6, 1), (0, 7)]
def bj1_7 : List (Nat × Nat) := [(0, 0), (1, 8), (1, 9), (1, 10), (1, 11), (1, 12), (1, 13), (1, 14), (1, 15), (0, 2), (3, 1), (3, 2), (3, 3), (3, 4), (2, 1), (2, 9), (2, 0), (0, 3), (4, 6), (4, 7), (4, 8), (4, 9), (4, 10), (4, 11), (4, 12), (4, 13), (4, 14), (4, 15), (0, 6), (5, 1), (5, 2), (5, 3), (5, 4), (5, 5), (5, 0), (0, 9), (8, 2), (8, 3), (8, 4), (8, 5), (8, 6), (8, 7), (8, 8), (8, 9), (8, 10), (8, 11), (8, 12), (6, 2), (10, 1), (10, 2), (10, 3), (10, 4), (10, 5), (10, 6), (10, 7), (6, 3), (11, 1), (11, 2), (11, 3), (11, 4), (11, 5), (11, 6), (11, 7), (6, 4), (6, 5), (6, 0), (6, 1), (0, 7), (9, 2), (9, 3), (9, 4), (9, 5), (9, 6), (9, 7), (9, 8), (9, 9), (9, 10), (9, 11), (9, 12), (7, 2), (12, 1), (12, 2), (12, 3), (12, 4), (12, 5), (12, 6), (12, 7), (7, 3), (13, 1), (13, 2), (13, 3), (13, 4), (13, 5), (13, 6), (13, 7), (7, 4), (7, 5), (7, 0), (7, 1)]
def bi_7 : List Nat := [0, 1, 64, 73, 74, 75, 76, 77, 78, 79, 80, 128, 192, 194, 195, 196, 197, 138, 256, 263, 264, 265, 266, 267, 268, 269, 270, 271, 272, 320, 322, 323, 324, 325, 326, 384, 512, 515, 516, 517, 518, 519, 520, 521, 522, 523, 524, 525, 640, 642, 643, 644, 645, 646, 647, 648, 704, 706, 707, 708, 709, 710, 711, 712, 390, 448]
def bi1_7 : List Nat := [0, 1, 64, 73, 74, 75, 76, 77, 78, 79, 80, 128, 192, 194, 195, 196, 197, 138, 256, 263, 264, 265, 266, 267, 268, 269, 270, 271, 272, 320, 322, 323, 324, 325, 326, 384, 512, 515, 516, 517, 518, 519, 520, 521, 522, 523, 524, 525, 640, 642, 643, 644, 645, 646, 647, 648, 704, 706, 707, 708, 709, 710, 711, 712, 390, 448, 576, 579, 580, 581, 582, 583, 584, 585, 586, 587, 588, 589, 768, 770, 771, 772, 773, 774, 775, 776, 832, 834, 835, 836, 837, 838, 839, 840, 454]
theorem cn_7 {d : Nat} {σ : am_St} (hz : σ = (am_sI (am_sI (am_sI si_C 0 1 0) 0 4 0) 0 5 (-1))) : am_D false ya_1_init (d + 2) 29 9229 [.ref (am_oid 7), .ref (am_oid 4), .ref (am_oid 5)] σ bj_7 bi_7 bj1_7 bi1_7 (fun τ => τ = σ) := by
  subst hz
  refine am_Benter rfl rfl (by decide) (by decide) ?_
  refine ab_aload_n (i := 0) (x := am_oid 7) (am_dec td_1_init 0 rfl) rfl rfl ?_
  refine ab_obj (am_dec td_1_init 1 rfl) ⟨am_in2 80 rfl rfl, am_in1 31 rfl rfl, am_in1 32 rfl rfl⟩ (by decide) (by omega) ?_
  refine ab_aload_n (i := 0) (x := am_oid 7) (am_dec td_1_init 2 rfl) rfl rfl ?_
  refine ab_new (o := 9) (ci := 5) (i := am_oid 9) (am_dec td_1_init 3 rfl) ⟨na_R5, na_F5, 13, rfl, am_in2 81 rfl rfl, am_in2 82 rfl rfl, am_in1 8 rfl rfl⟩ rfl (by decide) ⟨fun k => by simp [am_I_sI, am_I_si], rfl⟩ rfl (by decide) (by decide +kernel) (by decide +kernel) (by decide +kernel) (by decide +kernel) (by decide +kernel) (by decide +kernel) (by decide +kernel) (by decide +kernel) ?_
  refine ab_dup (am_dec td_1_init 4 rfl) ?_
  refine ab_eq (J' := bj_9) (I' := bi_9) (by decide +kernel) (by decide +kernel) ?_
  refine ab_call (x := am_oid 9) (as := []) (rest := [.ref (am_oid 9), .ref (am_oid 7)]) (am_dec td_1_init 5 rfl) ⟨Or.inr (fun U q => q.2.2.2.1), am_in2 84 rfl rfl, am_in1 8 rfl rfl, am_in2 85 rfl rfl, rfl, rfl, by decide, by decide, by decide +kernel, by decide⟩ rfl rfl (by decide) (cn_9 (d := d) rfl) (by decide +kernel) (by decide +kernel) (by decide +kernel) (by decide +kernel) (by decide +kernel) (fun τ hτ => ?_)
  subst hτ
  refine ab_put (o := 7) (am_dec td_1_init 6 rfl) fl_1_12 rfl (by decide) rfl (by decide) rfl (by decide +kernel) ?_
  refine ab_aload_n (i := 0) (x := am_oid 7) (am_dec td_1_init 7 rfl) rfl rfl ?_
  refine ab_new (o := 12) (ci := 8) (i := am_oid 12) (am_dec td_1_init 8 rfl) ⟨na_R8, na_F8, 8, rfl, am_in2 144 rfl rfl, am_in2 145 rfl rfl, am_in1 9 rfl rfl⟩ rfl (by decide) ⟨fun k => by simp [am_I_sI, am_I_si], rfl⟩ rfl (by decide) (by decide +kernel) (by decide +kernel) (by decide +kernel) (by decide +kernel) (by decide +kernel) (by decide +kernel) (by decide +kernel) (by decide +kernel) ?_
  refine ab_dup (am_dec td_1_init 9 rfl) ?_
  refine ab_eq (J' := bj_12) (I' := bi_12) (by decide +kernel) (by decide +kernel) ?_
  refine ab_call (x := am_oid 12) (as := []) (rest := [.ref (am_oid 12), .ref (am_oid 7)]) (am_dec td_1_init 10 rfl) ⟨Or.inr (fun U q => q.2.2.2.2), am_in2 147 rfl rfl, am_in1 9 rfl rfl, am_in2 148 rfl rfl, rfl, rfl, by decide, by decide, by decide +kernel, by decide⟩ rfl rfl (by decide) (cn_12 (d := d) rfl) (by decide +kernel) (by decide +kernel) (by decide +kernel) (by decide +kernel) (by decide +kernel) (fun τ hτ => ?_)
  subst hτ
  refine ab_put (o := 7) (am_dec td_1_init 11 rfl) fl_1_21 rfl (by decide) rfl (by decide) rfl (by decide +kernel) ?_
  refine ab_aload_n (i := 0) (x := am_oid 7) (am_dec td_1_init 12 rfl) rfl rfl ?_
  refine ab_new (o := 13) (ci := 8) (i := am_oid 13) (am_dec td_1_init 13 rfl) ⟨na_R8, na_F8, 8, rfl, am_in2 144 rfl rfl, am_in2 145 rfl rfl, am_in1 9 rfl rfl⟩ rfl (by decide) ⟨fun k => by simp [am_I_sI, am_I_si], rfl⟩ rfl (by decide) (by decide +kernel) (by decide +kernel) (by decide +kernel) (by decide +kernel) (by decide +kernel) (by decide +kernel) (by decide +kernel) (by decide +kernel) ?_
  refine ab_dup (am_dec td_1_init 14 rfl) ?_
  refine ab_eq (J' := bj_13) (I' := bi_13) (by decide +kernel) (by decide +kernel) ?_
  refine ab_call (x := am_oid 13) (as := []) (rest := [.ref (am_oid 13), .ref (am_oid 7)]) (am_dec td_1_init 15 rfl) ⟨Or.inr (fun U q => q.2.2.2.2), am_in2 147 rfl rfl, am_in1 9 rfl rfl, am_in2 148 rfl rfl, rfl, rfl, by decide, by decide, by decide +kernel, by decide⟩ rfl rfl (by decide) (cn_13 (d := d) rfl) (by decide +kernel) (by decide +kernel) (by decide +kernel) (by decide +kernel) (by decide +kernel) (fun τ hτ => ?_)
  subst hτ
  refine ab_put (o := 7) (am_dec td_1_init 16 rfl) fl_1_25 rfl (by decide) rfl (by decide) rfl (by decide +kernel) ?_
  refine ab_aload_n (i := 0) (x := am_oid 7) (am_dec td_1_init 17 rfl) rfl rfl ?_
  refine ab_sipush (v := 600) (am_dec td_1_init 18 rfl) (by decide) ?_
  refine ab_newa (ci := 1) (o := 7) (k := 5) (t := 2) (N := 600) (i := am_aid 7 5) (am_dec td_1_init 19 rfl) rfl (am_in1 115 rfl rfl) rfl (by decide) rfl (by decide) (by decide) rfl rfl (by decide) (by decide +kernel) (by decide +kernel) (by decide +kernel) (by decide +kernel) (by decide +kernel) (by decide +kernel) (by decide +kernel) ?_
  refine ab_put (o := 7) (am_dec td_1_init 20 rfl) fl_1_28 rfl (by decide) rfl (by decide) rfl (by decide +kernel) ?_
  refine ab_aload_n (i := 0) (x := am_oid 7) (am_dec td_1_init 21 rfl) rfl rfl ?_
  refine ab_aload_n (i := 1) (x := am_oid 4) (am_dec td_1_init 22 rfl) rfl rfl ?_
  refine ab_put (o := 7) (am_dec td_1_init 23 rfl) fl_1_32 rfl (by decide) rfl (by decide) rfl (by decide +kernel) ?_
  refine ab_aload_n (i := 0) (x := am_oid 7) (am_dec td_1_init 24 rfl) rfl rfl ?_
  refine ab_aload_n (i := 2) (x := am_oid 5) (am_dec td_1_init 25 rfl) rfl rfl ?_
  refine ab_put (o := 7) (am_dec td_1_init 26 rfl) fl_1_36 rfl (by decide) rfl (by decide) rfl (by decide +kernel) ?_
  exact ab_ret (am_dec td_1_init 27 rfl) rfl (by decide +kernel) (by decide +kernel) (by decide +kernel) (by decide +kernel) rfl
def bj_14 : List (Nat × Nat) := [(0, 0), (1, 8), (1, 9), (1, 10), (1, 11), (1, 12), (1, 13), (1, 14), (1, 15), (0, 2), (3, 1), (3, 2), (3, 3), (3, 4), (2, 1), (2, 9), (2, 0), (0, 3), (4, 6), (4, 7), (4, 8), (4, 9), (4, 10), (4, 11), (4, 12), (4, 13), (4, 14), (4, 15), (0, 6), (5, 1), (5, 2), (5, 3), (5, 4), (5, 5), (5, 0), (0, 9), (8, 2), (8, 3), (8, 4), (8, 5), (8, 6), (8, 7), (8, 8), (8, 9), (8, 10), (8, 11), (8, 12), (6, 2), (10, 1), (10, 2), (10, 3), (10, 4), (10, 5), (10, 6), (10, 7), (6, 3), (11, 1), (11, 2), (11, 3), (11, 4), (11, 5), (11, 6), (11, 7), (6, 4), (6, 5), (6, 0), (6, 1), (0, 7), (9, 2), (9, 3), (9, 4), (9, 5), (9, 6), (9, 7), (9, 8), (9, 9), (9, 10), (9, 11), (9, 12), (7, 2), (12, 1), (12, 2), (12, 3), (12, 4), (12, 5), (12, 6), (12, 7), (7, 3), (13, 1), (13, 2), (13, 3), (13, 4), (13, 5), (13, 6), (13, 7), (7, 4), (7, 5), (7, 0), (7, 1), (0, 8)]
def bj1_14 : List (Nat × Nat) := [(0, 0), (1, 8), (1, 9), (1, 10), (1, 11), (1, 12), (1, 13), (1, 14), (1, 15), (0, 2), (3, 1), (3, 2), (3, 3), (3, 4), (2, 1), (2, 9), (2, 0), (0, 3), (4, 6), (4, 7), (4, 8), (4, 9), (4, 10), (4, 11), (4, 12), (4, 13), (4, 14), (4, 15), (0, 6), (5, 1), (5, 2), (5, 3), (5, 4), (5, 5), (5, 0), (0, 9), (8, 2), (8, 3), (8, 4), (8, 5), (8, 6), (8, 7), (8, 8), (8, 9), (8, 10), (8, 11), (8, 12), (6, 2), (10, 1), (10, 2), (10, 3), (10, 4), (10, 5), (10, 6), (10, 7), (6, 3), (11, 1), (11, 2), (11, 3), (11, 4), (11, 5), (11, 6), (11, 7), (6, 4), (6, 5), (6, 0), (6, 1), (0, 7), (9, 2), (9, 3), (9, 4), (9, 5), (9, 6), (9, 7), (9, 8), (9, 9), (9, 10), (9, 11), (9, 12), (7, 2), (12, 1), (12, 2), (12, 3), (12, 4), (12, 5), (12, 6), (12, 7), (7, 3), (13, 1), (13, 2), (13, 3), (13, 4), (13, 5), (13, 6), (13, 7), (7, 4), (7, 5), (7, 0), (7, 1), (0, 8), (14, 3), (14, 4), (14, 5), (14, 6), (14, 7), (14, 0)]
def bi_14 : List Nat := [0, 1, 64, 73, 74, 75, 76, 77, 78, 79, 80, 128, 192, 194, 195, 196, 197, 138, 256, 263, 264, 265, 266, 267, 268, 269, 270, 271, 272, 320, 322, 323, 324, 325, 326, 384, 512, 515, 516, 517, 518, 519, 520, 521, 522, 523, 524, 525, 640, 642, 643, 644, 645, 646, 647, 648, 704, 706, 707, 708, 709, 710, 711, 712, 390, 448, 576, 579, 580, 581, 582, 583, 584, 585, 586, 587, 588, 589, 768, 770, 771, 772, 773, 774, 775, 776, 832, 834, 835, 836, 837, 838, 839, 840, 454, 896]
def bi1_14 : List Nat := [0, 1, 64, 73, 74, 75, 76, 77, 78, 79, 80, 128, 192, 194, 195, 196, 197, 138, 256, 263, 264, 265, 266, 267, 268, 269, 270, 271, 272, 320, 322, 323, 324, 325, 326, 384, 512, 515, 516, 517, 518, 519, 520, 521, 522, 523, 524, 525, 640, 642, 643, 644, 645, 646, 647, 648, 704, 706, 707, 708, 709, 710, 711, 712, 390, 448, 576, 579, 580, 581, 582, 583, 584, 585, 586, 587, 588, 589, 768, 770, 771, 772, 773, 774, 775, 776, 832, 834, 835, 836, 837, 838, 839, 840, 454, 896, 900, 901, 902, 903, 904]
theorem cn_14 {d : Nat} {σ : am_St} (hz : σ = (am_sI (am_sI (am_sI si_C 0 1 0) 0 4 0) 0 5 (-1))) : am_D false ya_6_init (d + 1) 5 4400 [.ref (am_oid 14), .ref (am_oid 4)] σ bj_14 bi_14 bj1_14 bi1_14 (fun τ => τ = σ) := by
  subst hz
  refine am_Benter rfl rfl (by decide) (by decide) ?_
  refine ab_aload_n (i := 0) (x := am_oid 14) (am_dec td_6_init 0 rfl) rfl rfl ?_
  refine ab_obj (am_dec td_6_init 1 rfl) ⟨am_in3 7 rfl rfl, am_in1 31 rfl rfl, am_in1 32 rfl rfl⟩ (by decide) (by omega) ?_
  refine ab_aload_n (i := 0) (x := am_oid 14) (am_dec td_6_init 2 rfl) rfl rfl ?_
  refine ab_sipush (v := 200) (am_dec td_6_init 3 rfl) (by decide) ?_
  refine ab_newa (ci := 6) (o := 14) (k := 3) (t := 0) (N := 200) (i := am_aid 14 3) (am_dec td_6_init 4 rfl) rfl (am_in1 114 rfl rfl) rfl (by decide) rfl (by decide) (by decide) rfl rfl (by decide) (by decide +kernel) (by decide +kernel) (by decide +kernel) (by decide +kernel) (by decide +kernel) (by decide +kernel) (by decide +kernel) ?_
  refine ab_put (o := 14) (am_dec td_6_init 5 rfl) fl_6_9 rfl (by decide) rfl (by decide) rfl (by decide +kernel) ?_
  refine ab_aload_n (i := 0) (x := am_oid 14) (am_dec td_6_init 6 rfl) rfl rfl ?_
  refine ab_sipush (v := 3200) (am_dec td_6_init 7 rfl) (by decide) ?_
  refine ab_newa (ci := 6) (o := 14) (k := 4) (t := 0) (N := 3200) (i := am_aid 14 4) (am_dec td_6_init 8 rfl) rfl (am_in1 114 rfl rfl) rfl (by decide) rfl (by decide) (by decide) rfl rfl (by decide) (by decide +kernel) (by decide +kernel) (by decide +kernel) (by decide +kernel) (by decide +kernel) (by decide +kernel) (by decide +kernel) ?_
  refine ab_put (o := 14) (am_dec td_6_init 9 rfl) fl_6_15 rfl (by decide) rfl (by decide) rfl (by decide +kernel) ?_
  refine ab_aload_n (i := 0) (x := am_oid 14) (am_dec td_6_init 10 rfl) rfl rfl ?_
  refine ab_sipush (v := 200) (am_dec td_6_init 11 rfl) (by decide) ?_
  refine ab_newa (ci := 6) (o := 14) (k := 5) (t := 0) (N := 200) (i := am_aid 14 5) (am_dec td_6_init 12 rfl) rfl (am_in1 114 rfl rfl) rfl (by decide) rfl (by decide) (by decide) rfl rfl (by decide) (by decide +kernel) (by decide +kernel) (by decide +kernel) (by decide +kernel) (by decide +kernel) (by decide +kernel) (by decide +kernel) ?_
  refine ab_put (o := 14) (am_dec td_6_init 13 rfl) fl_6_18 rfl (by decide) rfl (by decide) rfl (by decide +kernel) ?_
  refine ab_aload_n (i := 0) (x := am_oid 14) (am_dec td_6_init 14 rfl) rfl rfl ?_
  refine ab_sipush (v := 200) (am_dec td_6_init 15 rfl) (by decide) ?_
  refine ab_newa (ci := 6) (o := 14) (k := 6) (t := 0) (N := 200) (i := am_aid 14 6) (am_dec td_6_init 16 rfl) rfl (am_in1 114 rfl rfl) rfl (by decide) rfl (by decide) (by decide) rfl rfl (by decide) (by decide +kernel) (by decide +kernel) (by decide +kernel) (by decide +kernel) (by decide +kernel) (by decide +kernel) (by decide +kernel) ?_
  refine ab_put (o := 14) (am_dec td_6_init 17 rfl) fl_6_21 rfl (by decide) rfl (by decide) rfl (by decide +kernel) ?_
  refine ab_aload_n (i := 0) (x := am_oid 14) (am_dec td_6_init 18 rfl) rfl rfl ?_
  refine ab_sipush (v := 600) (am_dec td_6_init 19 rfl) (by decide) ?_
  refine ab_newa (ci := 6) (o := 14) (k := 7) (t := 0) (N := 600) (i := am_aid 14 7) (am_dec td_6_init 20 rfl) rfl (am_in1 114 rfl rfl) rfl (by decide) rfl (by decide) (by decide) rfl rfl (by decide) (by decide +kernel) (by decide +kernel) (by decide +kernel) (by decide +kernel) (by decide +kernel) (by decide +kernel) (by decide +kernel) ?_
  refine ab_put (o := 14) (am_dec td_6_init 21 rfl) fl_6_24 rfl (by decide) rfl (by decide) rfl (by decide +kernel) ?_
  refine ab_aload_n (i := 0) (x := am_oid 14) (am_dec td_6_init 22 rfl) rfl rfl ?_
  refine ab_aload_n (i := 1) (x := am_oid 4) (am_dec td_6_init 23 rfl) rfl rfl ?_
  refine ab_put (o := 14) (am_dec td_6_init 24 rfl) fl_6_27 rfl (by decide) rfl (by decide) rfl (by decide +kernel) ?_
  exact ab_ret (am_dec td_6_init 25 rfl) rfl (by decide +kernel) (by decide +kernel) (by decide +kernel) (by decide +kernel) rfl
def bj_15 : List (Nat × Nat) := [(0, 0), (1, 8), (1, 9), (1, 10), (1, 11), (1, 12), (1, 13), (1, 14), (1, 15), (0, 2), (3, 1), (3, 2), (3, 3), (3, 4), (2, 1), (2, 9), (2, 0), (0, 3), (4, 6), (4, 7), (4, 8), (4, 9), (4, 10), (4, 11), (4, 12), (4, 13), (4, 14), (4, 15), (0, 6), (5, 1), (5, 2), (5, 3), (5, 4), (5, 5), (5, 0), (0, 9), (8, 2), (8, 3), (8, 4), (8, 5), (8, 6), (8, 7), (8, 8), (8, 9), (8, 10), (8, 11), (8, 12), (6, 2), (10, 1), (10, 2), (10, 3), (10, 4), (10, 5), (10, 6), (10, 7), (6, 3), (11, 1), (11, 2), (11, 3), (11, 4), (11, 5), (11, 6), (11, 7), (6, 4), (6, 5), (6, 0), (6, 1), (0, 7), (9, 2), (9, 3), (9, 4), (9, 5), (9, 6), (9, 7), (9, 8), (9, 9), (9, 10), (9, 11), (9, 12), (7, 2), (12, 1), (12, 2), (12, 3), (12, 4), (12, 5), (12, 6), (12, 7), (7, 3), (13, 1), (13, 2), (13, 3), (13, 4), (13, 5), (13, 6), (13, 7), (7, 4), (7, 5), (7, 0), (7, 1), (0, 8), (14, 3), (14, 4), (14, 5), (14, 6), (14, 7), (14, 0), (0, 10)]
def bj1_15 : List (Nat × Nat) := [(0, 0), (1, 8), (1, 9), (1, 10), (1, 11), (1, 12), (1, 13), (1, 14), (1, 15), (0, 2), (3, 1), (3, 2), (3, 3), (3, 4), (2, 1), (2, 9), (2, 0), (0, 3), (4, 6), (4, 7), (4, 8), (4, 9), (4, 10), (4, 11), (4, 12), (4, 13), (4, 14), (4, 15), (0, 6), (5, 1), (5, 2), (5, 3), (5, 4), (5, 5), (5, 0), (0, 9), (8, 2), (8, 3), (8, 4), (8, 5), (8, 6), (8, 7), (8, 8), (8, 9), (8, 10), (8, 11), (8, 12), (6, 2), (10, 1), (10, 2), (10, 3), (10, 4), (10, 5), (10, 6), (10, 7), (6, 3), (11, 1), (11, 2), (11, 3), (11, 4), (11, 5), (11, 6), (11, 7), (6, 4), (6, 5), (6, 0), (6, 1), (0, 7), (9, 2), (9, 3), (9, 4), (9, 5), (9, 6), (9, 7), (9, 8), (9, 9), (9, 10), (9, 11), (9, 12), (7, 2), (12, 1), (12, 2), (12, 3), (12, 4), (12, 5), (12, 6), (12, 7), (7, 3), (13, 1), (13, 2), (13, 3), (13, 4), (13, 5), (13, 6), (13, 7), (7, 4), (7, 5), (7, 0), (7, 1), (0, 8), (14, 3), (14, 4), (14, 5), (14, 6), (14, 7), (14, 0), (0, 10), (15, 4), (15, 5), (15, 0)]
def bi_15 : List Nat := [0, 1, 64, 73, 74, 75, 76, 77, 78, 79, 80, 128, 192, 194, 195, 196, 197, 138, 256, 263, 264, 265, 266, 267, 268, 269, 270, 271, 272, 320, 322, 323, 324, 325, 326, 384, 512, 515, 516, 517, 518, 519, 520, 521, 522, 523, 524, 525, 640, 642, 643, 644, 645, 646, 647, 648, 704, 706, 707, 708, 709, 710, 711, 712, 390, 448, 576, 579, 580, 581, 582, 583, 584, 585, 586, 587, 588, 589, 768, 770, 771, 772, 773, 774, 775, 776, 832, 834, 835, 836, 837, 838, 839, 840, 454, 896, 900, 901, 902, 903, 904, 960]
def bi1_15 : List Nat := [0, 1, 64, 73, 74, 75, 76, 77, 78, 79, 80, 128, 192, 194, 195, 196, 197, 138, 256, 263, 264, 265, 266, 267, 268, 269, 270, 271, 272, 320, 322, 323, 324, 325, 326, 384, 512, 515, 516, 517, 518, 519, 520, 521, 522, 523, 524, 525, 640, 642, 643, 644, 645, 646, 647, 648, 704, 706, 707, 708, 709, 710, 711, 712, 390, 448, 576, 579, 580, 581, 582, 583, 584, 585, 586, 587, 588, 589, 768, 770, 771, 772, 773, 774, 775, 776, 832, 834, 835, 836, 837, 838, 839, 840, 454, 896, 900, 901, 902, 903, 904, 960, 965, 966]
theorem cn_15 {d : Nat} {σ : am_St} (hz : σ = (am_sI (am_sI (am_sI si_C 0 1 0) 0 4 0) 0 5 (-1))) : am_D false ya_3_init (d + 1) 2 1200 [.ref (am_oid 15), .ref (am_oid 4)] σ bj_15 bi_15 bj1_15 bi1_15 (fun τ => τ = σ) := by
  subst hz
  refine am_Benter rfl rfl (by decide) (by decide) ?_
  refine ab_aload_n (i := 0) (x := am_oid 15) (am_dec td_3_init 0 rfl) rfl rfl ?_
  refine ab_obj (am_dec td_3_init 1 rfl) ⟨am_in3 40 rfl rfl, am_in1 31 rfl rfl, am_in1 32 rfl rfl⟩ (by decide) (by omega) ?_
  refine ab_aload_n (i := 0) (x := am_oid 15) (am_dec td_3_init 2 rfl) rfl rfl ?_
  refine ab_sipush (v := 600) (am_dec td_3_init 3 rfl) (by decide) ?_
  refine ab_newa (ci := 3) (o := 15) (k := 4) (t := 2) (N := 600) (i := am_aid 15 4) (am_dec td_3_init 4 rfl) rfl (am_in1 115 rfl rfl) rfl (by decide) rfl (by decide) (by decide) rfl rfl (by decide) (by decide +kernel) (by decide +kernel) (by decide +kernel) (by decide +kernel) (by decide +kernel) (by decide +kernel) (by decide +kernel) ?_
  refine ab_put (o := 15) (am_dec td_3_init 5 rfl) fl_3_9 rfl (by decide) rfl (by decide) rfl (by decide +kernel) ?_
  refine ab_aload_n (i := 0) (x := am_oid 15) (am_dec td_3_init 6 rfl) rfl rfl ?_
  refine ab_sipush (v := 600) (am_dec td_3_init 7 rfl) (by decide) ?_
  refine ab_newa (ci := 3) (o := 15) (k := 5) (t := 2) (N := 600) (i := am_aid 15 5) (am_dec td_3_init 8 rfl) rfl (am_in1 115 rfl rfl) rfl (by decide) rfl (by decide) (by decide) rfl rfl (by decide) (by decide +kernel) (by decide +kernel) (by decide +kernel) (by decide +kernel) (by decide +kernel) (by decide +kernel) (by decide +kernel) ?_
  refine ab_put (o := 15) (am_dec td_3_init 9 rfl) fl_3_15 rfl (by decide) rfl (by decide) rfl (by decide +kernel) ?_
  refine ab_aload_n (i := 0) (x := am_oid 15) (am_dec td_3_init 10 rfl) rfl rfl ?_
  refine ab_aload_n (i := 1) (x := am_oid 4) (am_dec td_3_init 11 rfl) rfl rfl ?_
  refine ab_put (o := 15) (am_dec td_3_init 12 rfl) fl_3_18 rfl (by decide) rfl (by decide) rfl (by decide +kernel) ?_
  exact ab_ret (am_dec td_3_init 13 rfl) rfl (by decide +kernel) (by decide +kernel) (by decide +kernel) (by decide +kernel) rfl
def bj_0 : List (Nat × Nat) := []
def bj1_0 : List (Nat × Nat) := [(0, 0), (1, 8), (1, 9), (1, 10), (1, 11), (1, 12), (1, 13), (1, 14), (1, 15), (0, 2), (3, 1), (3, 2), (3, 3), (3, 4), (2, 1), (2, 9), (2, 0), (0, 3), (4, 6), (4, 7), (4, 8), (4, 9), (4, 10), (4, 11), (4, 12), (4, 13), (4, 14), (4, 15), (0, 6), (5, 1), (5, 2), (5, 3), (5, 4), (5, 5), (5, 0), (0, 9), (8, 2), (8, 3), (8, 4), (8, 5), (8, 6), (8, 7), (8, 8), (8, 9), (8, 10), (8, 11), (8, 12), (6, 2), (10, 1), (10, 2), (10, 3), (10, 4), (10, 5), (10, 6), (10, 7), (6, 3), (11, 1), (11, 2), (11, 3), (11, 4), (11, 5), (11, 6), (11, 7), (6, 4), (6, 5), (6, 0), (6, 1), (0, 7), (9, 2), (9, 3), (9, 4), (9, 5), (9, 6), (9, 7), (9, 8), (9, 9), (9, 10), (9, 11), (9, 12), (7, 2), (12, 1), (12, 2), (12, 3), (12, 4), (12, 5), (12, 6), (12, 7), (7, 3), (13, 1), (13, 2), (13, 3), (13, 4), (13, 5), (13, 6), (13, 7), (7, 4), (7, 5), (7, 0), (7, 1), (0, 8), (14, 3), (14, 4), (14, 5), (14, 6), (14, 7), (14, 0), (0, 10), (15, 4), (15, 5), (15, 0), (0, 11), (0, 12), (0, 13)]
def bi_0 : List Nat := [0]
def bi1_0 : List Nat := [0, 1, 64, 73, 74, 75, 76, 77, 78, 79, 80, 128, 192, 194, 195, 196, 197, 138, 256, 263, 264, 265, 266, 267, 268, 269, 270, 271, 272, 320, 322, 323, 324, 325, 326, 384, 512, 515, 516, 517, 518, 519, 520, 521, 522, 523, 524, 525, 640, 642, 643, 644, 645, 646, 647, 648, 704, 706, 707, 708, 709, 710, 711, 712, 390, 448, 576, 579, 580, 581, 582, 583, 584, 585, 586, 587, 588, 589, 768, 770, 771, 772, 773, 774, 775, 776, 832, 834, 835, 836, 837, 838, 839, 840, 454, 896, 900, 901, 902, 903, 904, 960, 965, 966, 13, 14]
