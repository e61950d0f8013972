/-! the two constructors whole, PRINTED by gen6.py (part5), their ends by hand -/
theorem am_pl0 : pl_all (fun _ => 0) 0 = .inr (0, pa_0) := rfl
def sX_0 : st_X := (pQ_p pa_0, pQ_N pa_0, lr_0, false, false, 0, fun _ => 0, 0, -1)
theorem sX_0_ok : sX_ok sX_0 := ⟨pq_ok_0.1, Nat.zero_le _, fun i hi => absurd hi (Nat.not_lt_zero i), lr_ok_0⟩
theorem cn_0 {d : Nat} : am_D false ya_10_init (d + 5) 105 44751 [.ref (am_oid 0)] si_C bj_0 bi_0 bj1_0 bi1_0 (fun τ => ci τ sX_0) := by
  refine am_Benter rfl rfl (by decide) (by decide) ?_
  refine ab_aload_n (i := 0) (x := am_oid 0) (am_dec td_10_init 0 rfl) rfl rfl ?_
  refine ab_obj (am_dec td_10_init 1 rfl) ⟨am_in1 30 rfl rfl, am_in1 31 rfl rfl, am_in1 32 rfl rfl⟩ (by decide) (by omega) ?_
  refine ab_aload_n (i := 0) (x := am_oid 0) (am_dec td_10_init 2 rfl) rfl rfl ?_
  refine ab_sipush (v := 900) (am_dec td_10_init 3 rfl) (by decide) ?_
  refine ab_newa (ci := 10) (o := 0) (k := 0) (t := 1) (N := 900) (i := am_aid 0 0) (am_dec td_10_init 4 rfl) rfl (am_in1 113 rfl rfl) rfl (by decide) rfl (by decide) (by decide) rfl rfl (by decide) (by decide +kernel) (by decide +kernel) (by decide +kernel) (by decide +kernel) (by decide +kernel) (by decide +kernel) (by decide +kernel) ?_
  refine ab_put (o := 0) (am_dec td_10_init 5 rfl) fl_10_9 rfl (by decide) rfl (by decide) rfl (by decide +kernel) ?_
  refine ab_aload_n (i := 0) (x := am_oid 0) (am_dec td_10_init 6 rfl) rfl rfl ?_
  refine ab_iconst (v := 0) (am_dec td_10_init 7 rfl) (by decide) ?_
  refine ab_putI (o := 0) (am_dec td_10_init 8 rfl) fl_10_13 rfl (by decide) rfl (by decide +kernel) ?_
  refine ab_aload_n (i := 0) (x := am_oid 0) (am_dec td_10_init 9 rfl) rfl rfl ?_
  refine ab_new (o := 1) (ci := 2) (i := am_oid 1) (am_dec td_10_init 10 rfl) ⟨na_R2, na_F2, 16, rfl, am_in1 33 rfl rfl, am_in1 34 rfl rfl, am_in1 2 rfl rfl⟩ rfl (by decide) ⟨fun k => by simp [am_I_sI, am_I_si], rfl⟩ rfl (by decide) (by decide +kernel) (by decide +kernel) (by decide +kernel) (by decide +kernel) (by decide +kernel) (by decide +kernel) (by decide +kernel) (by decide +kernel) ?_
  refine ab_dup (am_dec td_10_init 11 rfl) ?_
  refine ab_eq (J' := bj_1) (I' := bi_1) (by decide +kernel) (by decide +kernel) ?_
  refine ab_call (x := am_oid 1) (as := []) (rest := [.ref (am_oid 1), .ref (am_oid 0)]) (am_dec td_10_init 12 rfl) ⟨Or.inr (fun U q => q.1), am_in1 36 rfl rfl, am_in1 2 rfl rfl, am_in1 37 rfl rfl, rfl, rfl, by decide, by decide, by decide +kernel, by decide⟩ rfl rfl (by decide) (cn_1 (d := d + 3) rfl) (by decide +kernel) (by decide +kernel) (by decide +kernel) (by decide +kernel) (by decide +kernel) (fun τ hτ => ?_)
  subst hτ
  refine ab_put (o := 0) (am_dec td_10_init 13 rfl) fl_10_20 rfl (by decide) rfl (by decide) rfl (by decide +kernel) ?_
  refine ab_aload_n (i := 0) (x := am_oid 0) (am_dec td_10_init 14 rfl) rfl rfl ?_
  refine ab_new (o := 2) (ci := 4) (i := am_oid 2) (am_dec td_10_init 15 rfl) ⟨na_R4, na_F4, 12, rfl, am_in1 116 rfl rfl, am_in1 117 rfl rfl, am_in1 3 rfl rfl⟩ rfl (by decide) ⟨fun k => by simp [am_I_sI, am_I_si], rfl⟩ rfl (by decide) (by decide +kernel) (by decide +kernel) (by decide +kernel) (by decide +kernel) (by decide +kernel) (by decide +kernel) (by decide +kernel) (by decide +kernel) ?_
  refine ab_dup (am_dec td_10_init 16 rfl) ?_
  refine ab_aload_n (i := 0) (x := am_oid 0) (am_dec td_10_init 17 rfl) rfl rfl ?_
  refine ab_get (o := 0) (v := .ref (am_oid 1)) (am_dec td_10_init 18 rfl) fl_10_20 rfl (by decide) (by decide) (by decide +kernel) rfl (by decide +kernel) ?_
  refine ab_eq (J' := bj_2) (I' := bi_2) (by decide +kernel) (by decide +kernel) ?_
  refine ab_call (x := am_oid 2) (as := [.ref (am_oid 1)]) (rest := [.ref (am_oid 2), .ref (am_oid 0)]) (am_dec td_10_init 19 rfl) ⟨Or.inl (am_in1 118 rfl rfl), am_in1 119 rfl rfl, am_in1 3 rfl rfl, am_in1 120 rfl rfl, rfl, rfl, by decide, by decide, by decide +kernel, by decide⟩ rfl rfl (by decide) (cn_2 (d := d + 2) rfl) (by decide +kernel) (by decide +kernel) (by decide +kernel) (by decide +kernel) (by decide +kernel) (fun τ hτ => ?_)
  subst hτ
  refine ab_put (o := 0) (am_dec td_10_init 20 rfl) fl_10_29 rfl (by decide) rfl (by decide) rfl (by decide +kernel) ?_
  refine ab_aload_n (i := 0) (x := am_oid 0) (am_dec td_10_init 21 rfl) rfl rfl ?_
  refine ab_iconst (v := 0) (am_dec td_10_init 22 rfl) (by decide) ?_
  refine ab_putI (o := 0) (am_dec td_10_init 23 rfl) fl_10_33 rfl (by decide) rfl (by decide +kernel) ?_
  refine ab_aload_n (i := 0) (x := am_oid 0) (am_dec td_10_init 24 rfl) rfl rfl ?_
  refine ab_iconst (v := (-1)) (am_dec td_10_init 25 rfl) (by decide) ?_
  refine ab_putI (o := 0) (am_dec td_10_init 26 rfl) fl_10_36 rfl (by decide) rfl (by decide +kernel) ?_
  refine ab_aload_n (i := 0) (x := am_oid 0) (am_dec td_10_init 27 rfl) rfl rfl ?_
  refine ab_new (o := 4) (ci := 9) (i := am_oid 4) (am_dec td_10_init 28 rfl) ⟨na_R9, na_F9, 16, rfl, am_in1 188 rfl rfl, am_in1 189 rfl rfl, am_in1 5 rfl rfl⟩ rfl (by decide) ⟨fun k => by simp [am_I_sI, am_I_si], rfl⟩ rfl (by decide) (by decide +kernel) (by decide +kernel) (by decide +kernel) (by decide +kernel) (by decide +kernel) (by decide +kernel) (by decide +kernel) (by decide +kernel) ?_
  refine ab_dup (am_dec td_10_init 29 rfl) ?_
  refine ab_eq (J' := bj_4) (I' := bi_4) (by decide +kernel) (by decide +kernel) ?_
  refine ab_call (x := am_oid 4) (as := []) (rest := [.ref (am_oid 4), .ref (am_oid 0)]) (am_dec td_10_init 30 rfl) ⟨Or.inr (fun U q => q.2.2.1), am_in1 191 rfl rfl, am_in1 5 rfl rfl, am_in1 192 rfl rfl, rfl, rfl, by decide, by decide, by decide +kernel, by decide⟩ rfl rfl (by decide) (cn_4 (d := d + 3) rfl) (by decide +kernel) (by decide +kernel) (by decide +kernel) (by decide +kernel) (by decide +kernel) (fun τ hτ => ?_)
  subst hτ
  refine ab_put (o := 0) (am_dec td_10_init 31 rfl) fl_10_42 rfl (by decide) rfl (by decide) rfl (by decide +kernel) ?_
  refine ab_aload_n (i := 0) (x := am_oid 0) (am_dec td_10_init 32 rfl) rfl rfl ?_
  refine ab_new (o := 5) (ci := 0) (i := am_oid 5) (am_dec td_10_init 33 rfl) ⟨na_R0, na_F0, 13, rfl, am_in2 29 rfl rfl, am_in2 30 rfl rfl, am_in1 6 rfl rfl⟩ rfl (by decide) ⟨fun k => by simp [am_I_sI, am_I_si], rfl⟩ rfl (by decide) (by decide +kernel) (by decide +kernel) (by decide +kernel) (by decide +kernel) (by decide +kernel) (by decide +kernel) (by decide +kernel) (by decide +kernel) ?_
  refine ab_dup (am_dec td_10_init 34 rfl) ?_
  refine ab_aload_n (i := 0) (x := am_oid 0) (am_dec td_10_init 35 rfl) rfl rfl ?_
  refine ab_get (o := 0) (v := .ref (am_oid 4)) (am_dec td_10_init 36 rfl) fl_10_42 rfl (by decide) (by decide) (by decide +kernel) rfl (by decide +kernel) ?_
  refine ab_eq (J' := bj_5) (I' := bi_5) (by decide +kernel) (by decide +kernel) ?_
  refine ab_call (x := am_oid 5) (as := [.ref (am_oid 4)]) (rest := [.ref (am_oid 5), .ref (am_oid 0)]) (am_dec td_10_init 37 rfl) ⟨Or.inl (am_in2 31 rfl rfl), am_in2 32 rfl rfl, am_in1 6 rfl rfl, am_in2 33 rfl rfl, rfl, rfl, by decide, by decide, by decide +kernel, by decide⟩ rfl rfl (by decide) (cn_5 (d := d + 3) rfl) (by decide +kernel) (by decide +kernel) (by decide +kernel) (by decide +kernel) (by decide +kernel) (fun τ hτ => ?_)
  subst hτ
  refine ab_put (o := 0) (am_dec td_10_init 38 rfl) fl_10_51 rfl (by decide) rfl (by decide) rfl (by decide +kernel) ?_
  refine ab_aload_n (i := 0) (x := am_oid 0) (am_dec td_10_init 39 rfl) rfl rfl ?_
  refine ab_new (o := 6) (ci := 1) (i := am_oid 6) (am_dec td_10_init 40 rfl) ⟨na_R1, na_F1, 15, rfl, am_in2 75 rfl rfl, am_in2 76 rfl rfl, am_in1 7 rfl rfl⟩ rfl (by decide) ⟨fun k => by simp [am_I_sI, am_I_si], rfl⟩ rfl (by decide) (by decide +kernel) (by decide +kernel) (by decide +kernel) (by decide +kernel) (by decide +kernel) (by decide +kernel) (by decide +kernel) (by decide +kernel) ?_
  refine ab_dup (am_dec td_10_init 41 rfl) ?_
  refine ab_aload_n (i := 0) (x := am_oid 0) (am_dec td_10_init 42 rfl) rfl rfl ?_
  refine ab_get (o := 0) (v := .ref (am_oid 4)) (am_dec td_10_init 43 rfl) fl_10_42 rfl (by decide) (by decide) (by decide +kernel) rfl (by decide +kernel) ?_
  refine ab_aload_n (i := 0) (x := am_oid 0) (am_dec td_10_init 44 rfl) rfl rfl ?_
  refine ab_get (o := 0) (v := .ref (am_oid 5)) (am_dec td_10_init 45 rfl) fl_10_51 rfl (by decide) (by decide) (by decide +kernel) rfl (by decide +kernel) ?_
  refine ab_eq (J' := bj_6) (I' := bi_6) (by decide +kernel) (by decide +kernel) ?_
  refine ab_call (x := am_oid 6) (as := [.ref (am_oid 4), .ref (am_oid 5)]) (rest := [.ref (am_oid 6), .ref (am_oid 0)]) (am_dec td_10_init 46 rfl) ⟨Or.inl (am_in2 77 rfl rfl), am_in2 78 rfl rfl, am_in1 7 rfl rfl, am_in2 79 rfl rfl, rfl, rfl, by decide, by decide, by decide +kernel, by decide⟩ rfl rfl (by decide) (cn_6 (d := d + 2) rfl) (by decide +kernel) (by decide +kernel) (by decide +kernel) (by decide +kernel) (by decide +kernel) (fun τ hτ => ?_)
  subst hτ
  refine ab_put (o := 0) (am_dec td_10_init 47 rfl) fl_10_60 rfl (by decide) rfl (by decide) rfl (by decide +kernel) ?_
  refine ab_aload_n (i := 0) (x := am_oid 0) (am_dec td_10_init 48 rfl) rfl rfl ?_
  refine ab_new (o := 7) (ci := 1) (i := am_oid 7) (am_dec td_10_init 49 rfl) ⟨na_R1, na_F1, 15, rfl, am_in2 75 rfl rfl, am_in2 76 rfl rfl, am_in1 7 rfl rfl⟩ rfl (by decide) ⟨fun k => by simp [am_I_sI, am_I_si], rfl⟩ rfl (by decide) (by decide +kernel) (by decide +kernel) (by decide +kernel) (by decide +kernel) (by decide +kernel) (by decide +kernel) (by decide +kernel) (by decide +kernel) ?_
  refine ab_dup (am_dec td_10_init 50 rfl) ?_
  refine ab_aload_n (i := 0) (x := am_oid 0) (am_dec td_10_init 51 rfl) rfl rfl ?_
  refine ab_get (o := 0) (v := .ref (am_oid 4)) (am_dec td_10_init 52 rfl) fl_10_42 rfl (by decide) (by decide) (by decide +kernel) rfl (by decide +kernel) ?_
  refine ab_aload_n (i := 0) (x := am_oid 0) (am_dec td_10_init 53 rfl) rfl rfl ?_
  refine ab_get (o := 0) (v := .ref (am_oid 5)) (am_dec td_10_init 54 rfl) fl_10_51 rfl (by decide) (by decide) (by decide +kernel) rfl (by decide +kernel) ?_
  refine ab_eq (J' := bj_7) (I' := bi_7) (by decide +kernel) (by decide +kernel) ?_
  refine ab_call (x := am_oid 7) (as := [.ref (am_oid 4), .ref (am_oid 5)]) (rest := [.ref (am_oid 7), .ref (am_oid 0)]) (am_dec td_10_init 55 rfl) ⟨Or.inl (am_in2 77 rfl rfl), am_in2 78 rfl rfl, am_in1 7 rfl rfl, am_in2 79 rfl rfl, rfl, rfl, by decide, by decide, by decide +kernel, by decide⟩ rfl rfl (by decide) (cn_7 (d := d + 2) rfl) (by decide +kernel) (by decide +kernel) (by decide +kernel) (by decide +kernel) (by decide +kernel) (fun τ hτ => ?_)
  subst hτ
  refine ab_put (o := 0) (am_dec td_10_init 56 rfl) fl_10_64 rfl (by decide) rfl (by decide) rfl (by decide +kernel) ?_
  refine ab_aload_n (i := 0) (x := am_oid 0) (am_dec td_10_init 57 rfl) rfl rfl ?_
  refine ab_new (o := 14) (ci := 6) (i := am_oid 14) (am_dec td_10_init 58 rfl) ⟨na_R6, na_F6, 8, rfl, am_in3 2 rfl rfl, am_in3 3 rfl rfl, am_in1 10 rfl rfl⟩ rfl (by decide) ⟨fun k => by simp [am_I_sI, am_I_si], rfl⟩ rfl (by decide) (by decide +kernel) (by decide +kernel) (by decide +kernel) (by decide +kernel) (by decide +kernel) (by decide +kernel) (by decide +kernel) (by decide +kernel) ?_
  refine ab_dup (am_dec td_10_init 59 rfl) ?_
  refine ab_aload_n (i := 0) (x := am_oid 0) (am_dec td_10_init 60 rfl) rfl rfl ?_
  refine ab_get (o := 0) (v := .ref (am_oid 4)) (am_dec td_10_init 61 rfl) fl_10_42 rfl (by decide) (by decide) (by decide +kernel) rfl (by decide +kernel) ?_
  refine ab_eq (J' := bj_14) (I' := bi_14) (by decide +kernel) (by decide +kernel) ?_
  refine ab_call (x := am_oid 14) (as := [.ref (am_oid 4)]) (rest := [.ref (am_oid 14), .ref (am_oid 0)]) (am_dec td_10_init 62 rfl) ⟨Or.inl (am_in3 4 rfl rfl), am_in3 5 rfl rfl, am_in1 10 rfl rfl, am_in3 6 rfl rfl, rfl, rfl, by decide, by decide, by decide +kernel, by decide⟩ rfl rfl (by decide) (cn_14 (d := d + 3) rfl) (by decide +kernel) (by decide +kernel) (by decide +kernel) (by decide +kernel) (by decide +kernel) (fun τ hτ => ?_)
  subst hτ
  refine ab_put (o := 0) (am_dec td_10_init 63 rfl) fl_10_70 rfl (by decide) rfl (by decide) rfl (by decide +kernel) ?_
  refine ab_aload_n (i := 0) (x := am_oid 0) (am_dec td_10_init 64 rfl) rfl rfl ?_
  refine ab_new (o := 15) (ci := 3) (i := am_oid 15) (am_dec td_10_init 65 rfl) ⟨na_R3, na_F3, 6, rfl, am_in3 35 rfl rfl, am_in3 36 rfl rfl, am_in1 11 rfl rfl⟩ rfl (by decide) ⟨fun k => by simp [am_I_sI, am_I_si], rfl⟩ rfl (by decide) (by decide +kernel) (by decide +kernel) (by decide +kernel) (by decide +kernel) (by decide +kernel) (by decide +kernel) (by decide +kernel) (by decide +kernel) ?_
  refine ab_dup (am_dec td_10_init 66 rfl) ?_
  refine ab_aload_n (i := 0) (x := am_oid 0) (am_dec td_10_init 67 rfl) rfl rfl ?_
  refine ab_get (o := 0) (v := .ref (am_oid 4)) (am_dec td_10_init 68 rfl) fl_10_42 rfl (by decide) (by decide) (by decide +kernel) rfl (by decide +kernel) ?_
  refine ab_eq (J' := bj_15) (I' := bi_15) (by decide +kernel) (by decide +kernel) ?_
  refine ab_call (x := am_oid 15) (as := [.ref (am_oid 4)]) (rest := [.ref (am_oid 15), .ref (am_oid 0)]) (am_dec td_10_init 69 rfl) ⟨Or.inl (am_in3 37 rfl rfl), am_in3 38 rfl rfl, am_in1 11 rfl rfl, am_in3 39 rfl rfl, rfl, rfl, by decide, by decide, by decide +kernel, by decide⟩ rfl rfl (by decide) (cn_15 (d := d + 3) rfl) (by decide +kernel) (by decide +kernel) (by decide +kernel) (by decide +kernel) (by decide +kernel) (fun τ hτ => ?_)
  subst hτ
  refine ab_put (o := 0) (am_dec td_10_init 70 rfl) fl_10_77 rfl (by decide) rfl (by decide) rfl (by decide +kernel) ?_
  refine ab_aload_n (i := 0) (x := am_oid 0) (am_dec td_10_init 71 rfl) rfl rfl ?_
  refine ab_sipush (v := 272) (am_dec td_10_init 72 rfl) (by decide) ?_
  refine ab_newa (ci := 10) (o := 0) (k := 12) (t := 0) (N := 272) (i := am_aid 0 12) (am_dec td_10_init 73 rfl) rfl (am_in1 114 rfl rfl) rfl (by decide) rfl (by decide) (by decide) rfl rfl (by decide) (by decide +kernel) (by decide +kernel) (by decide +kernel) (by decide +kernel) (by decide +kernel) (by decide +kernel) (by decide +kernel) ?_
  refine ab_put (o := 0) (am_dec td_10_init 74 rfl) fl_10_81 rfl (by decide) rfl (by decide) rfl (by decide +kernel) ?_
  refine ab_aload_n (i := 0) (x := am_oid 0) (am_dec td_10_init 75 rfl) rfl rfl ?_
  refine ab_bipush (v := 68) (am_dec td_10_init 76 rfl) (by decide) ?_
  refine ab_newa (ci := 10) (o := 0) (k := 13) (t := 2) (N := 68) (i := am_aid 0 13) (am_dec td_10_init 77 rfl) rfl (am_in1 115 rfl rfl) rfl (by decide) rfl (by decide) (by decide) rfl rfl (by decide) (by decide +kernel) (by decide +kernel) (by decide +kernel) (by decide +kernel) (by decide +kernel) (by decide +kernel) (by decide +kernel) ?_
  refine ab_put (o := 0) (am_dec td_10_init 78 rfl) fl_10_85 rfl (by decide) rfl (by decide) rfl (by decide +kernel) ?_
  refine ab_eq (J' := bj1_0) (I' := bi1_0) (by decide +kernel) (by decide +kernel) ?_
  refine ab_aload_n (i := 0) (x := am_oid 0) (am_dec td_10_init 79 rfl) rfl rfl ?_
  refine ab_get (o := 0) (v := .ref (am_oid 1)) (am_dec td_10_init 80 rfl) fl_10_20 rfl (by decide) (by decide) (by decide +kernel) rfl (by decide +kernel) ?_
  refine ab_callV (o := 1) (ci := 2) (as := []) (rest := []) (am_dec td_10_init 81 rfl) (am_mV.of mt_2_clear (am_in3 63 rfl rfl)) rfl (by decide) rfl rfl rfl (by decide) (sp_2_clear (d := d + 3)) (by decide +kernel) (by decide +kernel) (by decide +kernel) (fun r τ hr => ?_)
  obtain ⟨rfl, O, hq⟩ := hr
  have R3 : ∀ o k, am_R τ o k = am_R si_C o k := fun o k => by show τ.2.2.2 o k = _; rw [O.2.2]; rfl
  have h6 : cl_6 τ := by unfold cl_6 le_tr; rw [R3, R3]; decide
  have h7 : cl_7 τ := by unfold cl_7 le_tr; rw [R3, R3]; decide
  refine ab_aload_n (i := 0) (x := am_oid 0) (am_dec td_10_init 82 rfl) rfl rfl ?_
  refine ab_callV (o := 0) (ci := 10) (as := []) (rest := []) (am_dec td_10_init 83 rfl) (am_mV.of mt_10_beginAnew (am_in3 70 rfl rfl)) rfl (by decide) rfl rfl rfl (by decide) (sp_10_beginAnew (d := d) (hq.cp pq_ok_0) h6 h7) (by decide +kernel) (by decide +kernel) (by decide +kernel) (fun r ω hr => ?_)
  obtain ⟨rfl, FB, g1, g2, g3, g4, g5, g6, g7⟩ := hr
  refine ab_ret (am_dec td_10_init 84 rfl) rfl (by decide +kernel) (by decide +kernel) rfl rfl ⟨⟨(FB.1 1).trans ((O.1 0 1 (by decide)).trans ?_), fun i hi => absurd hi (Nat.not_lt_zero i), (FB.1 4).trans ((O.1 0 4 (by decide)).trans ?_), (FB.1 5).trans ((O.1 0 5 (by decide)).trans ?_)⟩, g2, g1, g3, g4, g5, g6, g7⟩
  · simp only [am_I_sI]; rfl
  · simp only [am_I_sI]; rfl
  · simp only [am_I_sI]; rfl
def si_M : am_St := (fun _ _ => 0, fun _ _ _ => 0, fun _ => 0, fun _ _ => 0)
def bj_16 : List (Nat × Nat) := []
def bj1_16 : List (Nat × Nat) := [(16, 1), (16, 3), (16, 4), (16, 5), (16, 18), (16, 19), (16, 20), (16, 21), (16, 22), (16, 23), (16, 24), (16, 25), (16, 26), (16, 27), (16, 31), (16, 32), (16, 34), (16, 35), (16, 37), (16, 38), (16, 39), (16, 40), (16, 41), (16, 43), (16, 44), (16, 45), (16, 48), (16, 49)]
def bi_16 : List Nat := [1024]
def bi1_16 : List Nat := [1024, 1026, 1028, 1029, 1030, 1043, 1044, 1045, 1046, 1047, 1048, 1049, 1050, 1051, 1052, 1056, 1057, 1059, 1060, 1062, 1063, 1064, 1065, 1066, 1068, 1069, 1070, 1073, 1074]
theorem cn_16 {d : Nat} : am_D true ya_11_init (d + 14) 28 27803 [.ref (am_oid 16)] si_M bj_16 bi_16 bj1_16 bi1_16 (fun τ => ri τ sX_0) := by
  refine am_Benter rfl rfl (by decide) (by decide) ?_
  refine ab_aload_n (i := 0) (x := am_oid 16) (am_dec td_11_init 0 rfl) rfl rfl ?_
  refine ab_obj (am_dec td_11_init 1 rfl) ⟨am_in6 89 rfl rfl, am_in1 31 rfl rfl, am_in1 32 rfl rfl⟩ (by decide) (by omega) ?_
  refine ab_aload_n (i := 0) (x := am_oid 16) (am_dec td_11_init 2 rfl) rfl rfl ?_
  refine ab_sipush (v := 900) (am_dec td_11_init 3 rfl) (by decide) ?_
  refine ab_newa (ci := 11) (o := 16) (k := 1) (t := 0) (N := 900) (i := am_aid 16 1) (am_dec td_11_init 4 rfl) rfl (am_in1 114 rfl rfl) rfl (by decide) rfl (by decide) (by decide) rfl rfl (by decide) (by decide +kernel) (by decide +kernel) (by decide +kernel) (by decide +kernel) (by decide +kernel) (by decide +kernel) (by decide +kernel) ?_
  refine ab_put (o := 16) (am_dec td_11_init 5 rfl) fl_11_7 rfl (by decide) rfl (by decide) rfl (by decide +kernel) ?_
  refine ab_aload_n (i := 0) (x := am_oid 16) (am_dec td_11_init 6 rfl) rfl rfl ?_
  refine ab_sipush (v := 1300) (am_dec td_11_init 7 rfl) (by decide) ?_
  refine ab_newa (ci := 11) (o := 16) (k := 3) (t := 0) (N := 1300) (i := am_aid 16 3) (am_dec td_11_init 8 rfl) rfl (am_in1 114 rfl rfl) rfl (by decide) rfl (by decide) (by decide) rfl rfl (by decide) (by decide +kernel) (by decide +kernel) (by decide +kernel) (by decide +kernel) (by decide +kernel) (by decide +kernel) (by decide +kernel) ?_
  refine ab_put (o := 16) (am_dec td_11_init 9 rfl) fl_11_13 rfl (by decide) rfl (by decide) rfl (by decide +kernel) ?_
  refine ab_aload_n (i := 0) (x := am_oid 16) (am_dec td_11_init 10 rfl) rfl rfl ?_
  refine ab_sipush (v := 1300) (am_dec td_11_init 11 rfl) (by decide) ?_
  refine ab_newa (ci := 11) (o := 16) (k := 4) (t := 0) (N := 1300) (i := am_aid 16 4) (am_dec td_11_init 12 rfl) rfl (am_in1 114 rfl rfl) rfl (by decide) rfl (by decide) (by decide) rfl rfl (by decide) (by decide +kernel) (by decide +kernel) (by decide +kernel) (by decide +kernel) (by decide +kernel) (by decide +kernel) (by decide +kernel) ?_
  refine ab_put (o := 16) (am_dec td_11_init 13 rfl) fl_11_16 rfl (by decide) rfl (by decide) rfl (by decide +kernel) ?_
  refine ab_aload_n (i := 0) (x := am_oid 16) (am_dec td_11_init 14 rfl) rfl rfl ?_
  refine ab_iconst (v := 3) (am_dec td_11_init 15 rfl) (by decide) ?_
  refine ab_newa (ci := 11) (o := 16) (k := 5) (t := 0) (N := 3) (i := am_aid 16 5) (am_dec td_11_init 16 rfl) rfl (am_in1 114 rfl rfl) rfl (by decide) rfl (by decide) (by decide) rfl rfl (by decide) (by decide +kernel) (by decide +kernel) (by decide +kernel) (by decide +kernel) (by decide +kernel) (by decide +kernel) (by decide +kernel) ?_
  refine ab_put (o := 16) (am_dec td_11_init 17 rfl) fl_11_19 rfl (by decide) rfl (by decide) rfl (by decide +kernel) ?_
  refine ab_aload_n (i := 0) (x := am_oid 16) (am_dec td_11_init 18 rfl) rfl rfl ?_
  refine ab_iconst (v := (-1)) (am_dec td_11_init 19 rfl) (by decide) ?_
  refine ab_putI (o := 16) (am_dec td_11_init 20 rfl) fl_11_22 rfl (by decide) rfl (by decide +kernel) ?_
  refine ab_aload_n (i := 0) (x := am_oid 16) (am_dec td_11_init 21 rfl) rfl rfl ?_
  refine ab_sipush (v := 600) (am_dec td_11_init 22 rfl) (by decide) ?_
  refine ab_newa (ci := 11) (o := 16) (k := 18) (t := 0) (N := 600) (i := am_aid 16 18) (am_dec td_11_init 23 rfl) rfl (am_in1 114 rfl rfl) rfl (by decide) rfl (by decide) (by decide) rfl rfl (by decide) (by decide +kernel) (by decide +kernel) (by decide +kernel) (by decide +kernel) (by decide +kernel) (by decide +kernel) (by decide +kernel) ?_
  refine ab_put (o := 16) (am_dec td_11_init 24 rfl) fl_11_26 rfl (by decide) rfl (by decide) rfl (by decide +kernel) ?_
  refine ab_aload_n (i := 0) (x := am_oid 16) (am_dec td_11_init 25 rfl) rfl rfl ?_
  refine ab_sipush (v := 600) (am_dec td_11_init 26 rfl) (by decide) ?_
  refine ab_newa (ci := 11) (o := 16) (k := 19) (t := 2) (N := 600) (i := am_aid 16 19) (am_dec td_11_init 27 rfl) rfl (am_in1 115 rfl rfl) rfl (by decide) rfl (by decide) (by decide) rfl rfl (by decide) (by decide +kernel) (by decide +kernel) (by decide +kernel) (by decide +kernel) (by decide +kernel) (by decide +kernel) (by decide +kernel) ?_
  refine ab_put (o := 16) (am_dec td_11_init 28 rfl) fl_11_29 rfl (by decide) rfl (by decide) rfl (by decide +kernel) ?_
  refine ab_aload_n (i := 0) (x := am_oid 16) (am_dec td_11_init 29 rfl) rfl rfl ?_
  refine ab_sipush (v := 600) (am_dec td_11_init 30 rfl) (by decide) ?_
  refine ab_newa (ci := 11) (o := 16) (k := 20) (t := 2) (N := 600) (i := am_aid 16 20) (am_dec td_11_init 31 rfl) rfl (am_in1 115 rfl rfl) rfl (by decide) rfl (by decide) (by decide) rfl rfl (by decide) (by decide +kernel) (by decide +kernel) (by decide +kernel) (by decide +kernel) (by decide +kernel) (by decide +kernel) (by decide +kernel) ?_
  refine ab_put (o := 16) (am_dec td_11_init 32 rfl) fl_11_33 rfl (by decide) rfl (by decide) rfl (by decide +kernel) ?_
  refine ab_aload_n (i := 0) (x := am_oid 16) (am_dec td_11_init 33 rfl) rfl rfl ?_
  refine ab_sipush (v := 600) (am_dec td_11_init 34 rfl) (by decide) ?_
  refine ab_newa (ci := 11) (o := 16) (k := 21) (t := 2) (N := 600) (i := am_aid 16 21) (am_dec td_11_init 35 rfl) rfl (am_in1 115 rfl rfl) rfl (by decide) rfl (by decide) (by decide) rfl rfl (by decide) (by decide +kernel) (by decide +kernel) (by decide +kernel) (by decide +kernel) (by decide +kernel) (by decide +kernel) (by decide +kernel) ?_
  refine ab_put (o := 16) (am_dec td_11_init 36 rfl) fl_11_36 rfl (by decide) rfl (by decide) rfl (by decide +kernel) ?_
  refine ab_aload_n (i := 0) (x := am_oid 16) (am_dec td_11_init 37 rfl) rfl rfl ?_
  refine ab_sipush (v := 600) (am_dec td_11_init 38 rfl) (by decide) ?_
  refine ab_newa (ci := 11) (o := 16) (k := 22) (t := 2) (N := 600) (i := am_aid 16 22) (am_dec td_11_init 39 rfl) rfl (am_in1 115 rfl rfl) rfl (by decide) rfl (by decide) (by decide) rfl rfl (by decide) (by decide +kernel) (by decide +kernel) (by decide +kernel) (by decide +kernel) (by decide +kernel) (by decide +kernel) (by decide +kernel) ?_
  refine ab_put (o := 16) (am_dec td_11_init 40 rfl) fl_11_39 rfl (by decide) rfl (by decide) rfl (by decide +kernel) ?_
  refine ab_aload_n (i := 0) (x := am_oid 16) (am_dec td_11_init 41 rfl) rfl rfl ?_
  refine ab_sipush (v := 4800) (am_dec td_11_init 42 rfl) (by decide) ?_
  refine ab_newa (ci := 11) (o := 16) (k := 23) (t := 0) (N := 4800) (i := am_aid 16 23) (am_dec td_11_init 43 rfl) rfl (am_in1 114 rfl rfl) rfl (by decide) rfl (by decide) (by decide) rfl rfl (by decide) (by decide +kernel) (by decide +kernel) (by decide +kernel) (by decide +kernel) (by decide +kernel) (by decide +kernel) (by decide +kernel) ?_
  refine ab_put (o := 16) (am_dec td_11_init 44 rfl) fl_11_42 rfl (by decide) rfl (by decide) rfl (by decide +kernel) ?_
  refine ab_aload_n (i := 0) (x := am_oid 16) (am_dec td_11_init 45 rfl) rfl rfl ?_
  refine ab_iconst (v := 3) (am_dec td_11_init 46 rfl) (by decide) ?_
  refine ab_newa (ci := 11) (o := 16) (k := 24) (t := 0) (N := 3) (i := am_aid 16 24) (am_dec td_11_init 47 rfl) rfl (am_in1 114 rfl rfl) rfl (by decide) rfl (by decide) (by decide) rfl rfl (by decide) (by decide +kernel) (by decide +kernel) (by decide +kernel) (by decide +kernel) (by decide +kernel) (by decide +kernel) (by decide +kernel) ?_
  refine ab_put (o := 16) (am_dec td_11_init 48 rfl) fl_11_45 rfl (by decide) rfl (by decide) rfl (by decide +kernel) ?_
  refine ab_aload_n (i := 0) (x := am_oid 16) (am_dec td_11_init 49 rfl) rfl rfl ?_
  refine ab_sipush (v := 3414) (am_dec td_11_init 50 rfl) (by decide) ?_
  refine ab_newa (ci := 11) (o := 16) (k := 25) (t := 0) (N := 3414) (i := am_aid 16 25) (am_dec td_11_init 51 rfl) rfl (am_in1 114 rfl rfl) rfl (by decide) rfl (by decide) (by decide) rfl rfl (by decide) (by decide +kernel) (by decide +kernel) (by decide +kernel) (by decide +kernel) (by decide +kernel) (by decide +kernel) (by decide +kernel) ?_
  refine ab_put (o := 16) (am_dec td_11_init 52 rfl) fl_11_48 rfl (by decide) rfl (by decide) rfl (by decide +kernel) ?_
  refine ab_aload_n (i := 0) (x := am_oid 16) (am_dec td_11_init 53 rfl) rfl rfl ?_
  refine ab_sipush (v := 3414) (am_dec td_11_init 54 rfl) (by decide) ?_
  refine ab_newa (ci := 11) (o := 16) (k := 26) (t := 0) (N := 3414) (i := am_aid 16 26) (am_dec td_11_init 55 rfl) rfl (am_in1 114 rfl rfl) rfl (by decide) rfl (by decide) (by decide) rfl rfl (by decide) (by decide +kernel) (by decide +kernel) (by decide +kernel) (by decide +kernel) (by decide +kernel) (by decide +kernel) (by decide +kernel) ?_
  refine ab_put (o := 16) (am_dec td_11_init 56 rfl) fl_11_51 rfl (by decide) rfl (by decide) rfl (by decide +kernel) ?_
  refine ab_aload_n (i := 0) (x := am_oid 16) (am_dec td_11_init 57 rfl) rfl rfl ?_
  refine ab_sipush (v := 600) (am_dec td_11_init 58 rfl) (by decide) ?_
  refine ab_newa (ci := 11) (o := 16) (k := 27) (t := 0) (N := 600) (i := am_aid 16 27) (am_dec td_11_init 59 rfl) rfl (am_in1 114 rfl rfl) rfl (by decide) rfl (by decide) (by decide) rfl rfl (by decide) (by decide +kernel) (by decide +kernel) (by decide +kernel) (by decide +kernel) (by decide +kernel) (by decide +kernel) (by decide +kernel) ?_
  refine ab_put (o := 16) (am_dec td_11_init 60 rfl) fl_11_54 rfl (by decide) rfl (by decide) rfl (by decide +kernel) ?_
  refine ab_aload_n (i := 0) (x := am_oid 16) (am_dec td_11_init 61 rfl) rfl rfl ?_
  refine ab_iconst (v := (-1)) (am_dec td_11_init 62 rfl) (by decide) ?_
  refine ab_putI (o := 16) (am_dec td_11_init 63 rfl) fl_11_57 rfl (by decide) rfl (by decide +kernel) ?_
  refine ab_aload_n (i := 0) (x := am_oid 16) (am_dec td_11_init 64 rfl) rfl rfl ?_
  refine ab_sipush (v := 200) (am_dec td_11_init 65 rfl) (by decide) ?_
  refine ab_newa (ci := 11) (o := 16) (k := 31) (t := 0) (N := 200) (i := am_aid 16 31) (am_dec td_11_init 66 rfl) rfl (am_in1 114 rfl rfl) rfl (by decide) rfl (by decide) (by decide) rfl rfl (by decide) (by decide +kernel) (by decide +kernel) (by decide +kernel) (by decide +kernel) (by decide +kernel) (by decide +kernel) (by decide +kernel) ?_
  refine ab_put (o := 16) (am_dec td_11_init 67 rfl) fl_11_60 rfl (by decide) rfl (by decide) rfl (by decide +kernel) ?_
  refine ab_aload_n (i := 0) (x := am_oid 16) (am_dec td_11_init 68 rfl) rfl rfl ?_
  refine ab_sipush (v := 2412) (am_dec td_11_init 69 rfl) (by decide) ?_
  refine ab_newa (ci := 11) (o := 16) (k := 32) (t := 0) (N := 2412) (i := am_aid 16 32) (am_dec td_11_init 70 rfl) rfl (am_in1 114 rfl rfl) rfl (by decide) rfl (by decide) (by decide) rfl rfl (by decide) (by decide +kernel) (by decide +kernel) (by decide +kernel) (by decide +kernel) (by decide +kernel) (by decide +kernel) (by decide +kernel) ?_
  refine ab_put (o := 16) (am_dec td_11_init 71 rfl) fl_11_63 rfl (by decide) rfl (by decide) rfl (by decide +kernel) ?_
  refine ab_aload_n (i := 0) (x := am_oid 16) (am_dec td_11_init 72 rfl) rfl rfl ?_
  refine ab_sipush (v := 200) (am_dec td_11_init 73 rfl) (by decide) ?_
  refine ab_newa (ci := 11) (o := 16) (k := 34) (t := 0) (N := 200) (i := am_aid 16 34) (am_dec td_11_init 74 rfl) rfl (am_in1 114 rfl rfl) rfl (by decide) rfl (by decide) (by decide) rfl rfl (by decide) (by decide +kernel) (by decide +kernel) (by decide +kernel) (by decide +kernel) (by decide +kernel) (by decide +kernel) (by decide +kernel) ?_
  refine ab_put (o := 16) (am_dec td_11_init 75 rfl) fl_11_66 rfl (by decide) rfl (by decide) rfl (by decide +kernel) ?_
  refine ab_aload_n (i := 0) (x := am_oid 16) (am_dec td_11_init 76 rfl) rfl rfl ?_
  refine ab_sipush (v := 200) (am_dec td_11_init 77 rfl) (by decide) ?_
  refine ab_newa (ci := 11) (o := 16) (k := 35) (t := 0) (N := 200) (i := am_aid 16 35) (am_dec td_11_init 78 rfl) rfl (am_in1 114 rfl rfl) rfl (by decide) rfl (by decide) (by decide) rfl rfl (by decide) (by decide +kernel) (by decide +kernel) (by decide +kernel) (by decide +kernel) (by decide +kernel) (by decide +kernel) (by decide +kernel) ?_
  refine ab_put (o := 16) (am_dec td_11_init 79 rfl) fl_11_69 rfl (by decide) rfl (by decide) rfl (by decide +kernel) ?_
  refine ab_aload_n (i := 0) (x := am_oid 16) (am_dec td_11_init 80 rfl) rfl rfl ?_
  refine ab_sipush (v := 200) (am_dec td_11_init 81 rfl) (by decide) ?_
  refine ab_newa (ci := 11) (o := 16) (k := 37) (t := 0) (N := 200) (i := am_aid 16 37) (am_dec td_11_init 82 rfl) rfl (am_in1 114 rfl rfl) rfl (by decide) rfl (by decide) (by decide) rfl rfl (by decide) (by decide +kernel) (by decide +kernel) (by decide +kernel) (by decide +kernel) (by decide +kernel) (by decide +kernel) (by decide +kernel) ?_
  refine ab_put (o := 16) (am_dec td_11_init 83 rfl) fl_11_72 rfl (by decide) rfl (by decide) rfl (by decide +kernel) ?_
  refine ab_aload_n (i := 0) (x := am_oid 16) (am_dec td_11_init 84 rfl) rfl rfl ?_
  refine ab_sipush (v := 3232) (am_dec td_11_init 85 rfl) (by decide) ?_
  refine ab_newa (ci := 11) (o := 16) (k := 38) (t := 0) (N := 3232) (i := am_aid 16 38) (am_dec td_11_init 86 rfl) rfl (am_in1 114 rfl rfl) rfl (by decide) rfl (by decide) (by decide) rfl rfl (by decide) (by decide +kernel) (by decide +kernel) (by decide +kernel) (by decide +kernel) (by decide +kernel) (by decide +kernel) (by decide +kernel) ?_
  refine ab_put (o := 16) (am_dec td_11_init 87 rfl) fl_11_75 rfl (by decide) rfl (by decide) rfl (by decide +kernel) ?_
  refine ab_aload_n (i := 0) (x := am_oid 16) (am_dec td_11_init 88 rfl) rfl rfl ?_
  refine ab_sipush (v := 202) (am_dec td_11_init 89 rfl) (by decide) ?_
  refine ab_newa (ci := 11) (o := 16) (k := 39) (t := 0) (N := 202) (i := am_aid 16 39) (am_dec td_11_init 90 rfl) rfl (am_in1 114 rfl rfl) rfl (by decide) rfl (by decide) (by decide) rfl rfl (by decide) (by decide +kernel) (by decide +kernel) (by decide +kernel) (by decide +kernel) (by decide +kernel) (by decide +kernel) (by decide +kernel) ?_
  refine ab_put (o := 16) (am_dec td_11_init 91 rfl) fl_11_78 rfl (by decide) rfl (by decide) rfl (by decide +kernel) ?_
  refine ab_aload_n (i := 0) (x := am_oid 16) (am_dec td_11_init 92 rfl) rfl rfl ?_
  refine ab_sipush (v := 202) (am_dec td_11_init 93 rfl) (by decide) ?_
  refine ab_newa (ci := 11) (o := 16) (k := 40) (t := 0) (N := 202) (i := am_aid 16 40) (am_dec td_11_init 94 rfl) rfl (am_in1 114 rfl rfl) rfl (by decide) rfl (by decide) (by decide) rfl rfl (by decide) (by decide +kernel) (by decide +kernel) (by decide +kernel) (by decide +kernel) (by decide +kernel) (by decide +kernel) (by decide +kernel) ?_
  refine ab_put (o := 16) (am_dec td_11_init 95 rfl) fl_11_81 rfl (by decide) rfl (by decide) rfl (by decide +kernel) ?_
  refine ab_aload_n (i := 0) (x := am_oid 16) (am_dec td_11_init 96 rfl) rfl rfl ?_
  refine ab_sipush (v := 202) (am_dec td_11_init 97 rfl) (by decide) ?_
  refine ab_newa (ci := 11) (o := 16) (k := 41) (t := 0) (N := 202) (i := am_aid 16 41) (am_dec td_11_init 98 rfl) rfl (am_in1 114 rfl rfl) rfl (by decide) rfl (by decide) (by decide) rfl rfl (by decide) (by decide +kernel) (by decide +kernel) (by decide +kernel) (by decide +kernel) (by decide +kernel) (by decide +kernel) (by decide +kernel) ?_
  refine ab_put (o := 16) (am_dec td_11_init 99 rfl) fl_11_84 rfl (by decide) rfl (by decide) rfl (by decide +kernel) ?_
  refine ab_aload_n (i := 0) (x := am_oid 16) (am_dec td_11_init 100 rfl) rfl rfl ?_
  refine ab_bipush (v := 17) (am_dec td_11_init 101 rfl) (by decide) ?_
  refine ab_newa (ci := 11) (o := 16) (k := 43) (t := 0) (N := 17) (i := am_aid 16 43) (am_dec td_11_init 102 rfl) rfl (am_in1 114 rfl rfl) rfl (by decide) rfl (by decide) (by decide) rfl rfl (by decide) (by decide +kernel) (by decide +kernel) (by decide +kernel) (by decide +kernel) (by decide +kernel) (by decide +kernel) (by decide +kernel) ?_
  refine ab_put (o := 16) (am_dec td_11_init 103 rfl) fl_11_87 rfl (by decide) rfl (by decide) rfl (by decide +kernel) ?_
  refine ab_aload_n (i := 0) (x := am_oid 16) (am_dec td_11_init 104 rfl) rfl rfl ?_
  refine ab_sipush (v := 202) (am_dec td_11_init 105 rfl) (by decide) ?_
  refine ab_newa (ci := 11) (o := 16) (k := 44) (t := 2) (N := 202) (i := am_aid 16 44) (am_dec td_11_init 106 rfl) rfl (am_in1 115 rfl rfl) rfl (by decide) rfl (by decide) (by decide) rfl rfl (by decide) (by decide +kernel) (by decide +kernel) (by decide +kernel) (by decide +kernel) (by decide +kernel) (by decide +kernel) (by decide +kernel) ?_
  refine ab_put (o := 16) (am_dec td_11_init 107 rfl) fl_11_90 rfl (by decide) rfl (by decide) rfl (by decide +kernel) ?_
  refine ab_aload_n (i := 0) (x := am_oid 16) (am_dec td_11_init 108 rfl) rfl rfl ?_
  refine ab_sipush (v := 600) (am_dec td_11_init 109 rfl) (by decide) ?_
  refine ab_newa (ci := 11) (o := 16) (k := 45) (t := 2) (N := 600) (i := am_aid 16 45) (am_dec td_11_init 110 rfl) rfl (am_in1 115 rfl rfl) rfl (by decide) rfl (by decide) (by decide) rfl rfl (by decide) (by decide +kernel) (by decide +kernel) (by decide +kernel) (by decide +kernel) (by decide +kernel) (by decide +kernel) (by decide +kernel) ?_
  refine ab_put (o := 16) (am_dec td_11_init 111 rfl) fl_11_93 rfl (by decide) rfl (by decide) rfl (by decide +kernel) ?_
  refine ab_aload_n (i := 0) (x := am_oid 16) (am_dec td_11_init 112 rfl) rfl rfl ?_
  refine ab_sipush (v := 600) (am_dec td_11_init 113 rfl) (by decide) ?_
  refine ab_newa (ci := 11) (o := 16) (k := 48) (t := 2) (N := 600) (i := am_aid 16 48) (am_dec td_11_init 114 rfl) rfl (am_in1 115 rfl rfl) rfl (by decide) rfl (by decide) (by decide) rfl rfl (by decide) (by decide +kernel) (by decide +kernel) (by decide +kernel) (by decide +kernel) (by decide +kernel) (by decide +kernel) (by decide +kernel) ?_
  refine ab_put (o := 16) (am_dec td_11_init 115 rfl) fl_11_96 rfl (by decide) rfl (by decide) rfl (by decide +kernel) ?_
  refine ab_aload_n (i := 0) (x := am_oid 16) (am_dec td_11_init 116 rfl) rfl rfl ?_
  refine ab_sipush (v := 600) (am_dec td_11_init 117 rfl) (by decide) ?_
  refine ab_newa (ci := 11) (o := 16) (k := 49) (t := 2) (N := 600) (i := am_aid 16 49) (am_dec td_11_init 118 rfl) rfl (am_in1 115 rfl rfl) rfl (by decide) rfl (by decide) (by decide) rfl rfl (by decide) (by decide +kernel) (by decide +kernel) (by decide +kernel) (by decide +kernel) (by decide +kernel) (by decide +kernel) (by decide +kernel) ?_
  refine ab_put (o := 16) (am_dec td_11_init 119 rfl) fl_11_99 rfl (by decide) rfl (by decide) rfl (by decide +kernel) ?_
  refine ab_eq (J' := bj1_16) (I' := bi1_16) (by decide +kernel) (by decide +kernel) ?_
  refine ab_aload_n (i := 0) (x := am_oid 16) (am_dec td_11_init 120 rfl) rfl rfl ?_
  refine ab_iconst (v := nI 0) (am_dec td_11_init 121 rfl) (by decide) ?_
  refine ab_callV (o := 16) (ci := 11) (as := [.int (nI 0)]) (rest := []) (am_dec td_11_init 122 rfl) (am_mV.of mt_11_readText (am_in6 90 rfl rfl)) rfl (by decide) rfl rfl rfl (by decide) (sp_11_readText (d := d) (tc := fun _ => 0) (Nat.zero_le _) (fun _ => by decide) (fun i hi => absurd hi (Nat.not_lt_zero i))) (by decide +kernel) (by decide +kernel) (by decide +kernel) (fun r τ hr => ?_)
  obtain ⟨rfl, F, hr⟩ := hr
  rw [am_pl0] at hr
  obtain ⟨p1, hP⟩ := hr
  obtain ⟨cf', ce, hm⟩ := hP.rm pq_ok_0
  obtain ⟨w1, w2, w3⟩ := pP_sw_w ce
  have F' : mo_Fm [0, 6, 7, 8, 9, 10, 11, 12, 13, 16] [4, 5] _ τ := F.wid rfl rfl
  have t30 : am_I τ 16 30 = -1 := (F'.1 30 rfl).trans (by simp only [am_I_sI]; rfl)
  refine ab_aload_n (i := 0) (x := am_oid 16) (am_dec td_11_init 123 rfl) rfl rfl ?_
  refine ab_callV (o := 16) (ci := 11) (as := []) (rest := []) (am_dec td_11_init 124 rfl) (am_mV.of mt_11_becomes (am_in7 0 rfl rfl)) rfl (by decide) rfl rfl rfl (by decide) (sp_11_becomes0 (d := d + 8) hm t30) (by decide +kernel) (by decide +kernel) (by decide +kernel) (fun r ω hr => ?_)
  obtain ⟨rfl, FB, e6, g1, g2, g3⟩ := hr
  rw [w1, w2, w3] at g2
  refine ab_ret (am_dec td_11_init 125 rfl) rfl (by decide +kernel) (by decide +kernel) rfl rfl ⟨⟨(FB.1 2 rfl).trans ((F'.1 2 rfl).trans ?_), fun i hi => absurd hi (Nat.not_lt_zero i), (FB.1 14 rfl).trans ((F'.1 14 rfl).trans ?_), (FB.1 15 rfl).trans ((F'.1 15 rfl).trans ?_), (FB.1 30 rfl).trans t30⟩, g1, g2, g3⟩
  · simp only [am_I_sI]; rfl
  · simp only [am_I_sI]; rfl
  · simp only [am_I_sI]; rfl
