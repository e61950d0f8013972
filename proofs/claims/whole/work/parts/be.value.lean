/-! InvariantLearner.value: it returns or throws (gen11.py) -/
theorem vv_get {p : Program} {l : Launch} {e : Env} {R : Room} {s : State} {m : MethodId} {args : Array Value} {below : List Frame} {meth : Method} {c : Code} {H : Heap} {locs : List Loc} {cells slots : Nat} {Ψ : State → Prop} {cc : ByteArray} {nL pc : Nat} {ls : Array Slot} {own : String} {D : va_G} {K : Nat → ClassId} {ρ : Nat → Nat} {sd : Bool} {σ : am_St} {o ci k idx : Nat} {v : Value} {rest : List Value}
    (S : CallFix p m c cc nL s args am_tbl own) (hd : decode cc pc = .ok (.getfield idx, 3)) (hw : am_fl own idx ci k) (ho : am_k sd o = ci) (hc : ci < 12) (hk : (am_fk ci k).1 < 9) (hK : va_K D am_cl (am_tys K) s) (hP : va_P D am_cl (am_ws K ρ sd σ) H) (hv : am_v ρ (am_fa σ ci o k) = v)
    (kk : W p l e R s m args below meth c H locs cells slots Ψ (F0 m (pc + 3) ls (v :: rest))) : W p l e R s m args below meth c H locs cells slots Ψ (F0 m pc ls (.ref (ρ (am_oid o)) :: rest)) := by
  subst hv
  obtain ⟨C, F, N, ty, h1, h2, h3, h4, h5, h6⟩ := am_cf_all ci hc
  obtain ⟨C', F', N', g1, g2⟩ := hw
  obtain ⟨rfl, rfl, rfl⟩ : C' = C ∧ F' = F ∧ N' = N := by have := g1.symm.trans h1; simp at this; exact this
  obtain ⟨q0, i1, i2⟩ := am_at_w (K := K) (ρ := ρ) (σ := σ) (am_in_o ho hc)
  rw [am_ce_o ho] at i2
  have hkn : k < am_nf ci := am_fk_lt hc hk
  exact va_get (C := C') (T := F') (N := N') (ci := ci) S.1 S.2.1 S.2.2.2.2 h3 S.2.2.2.1 hK hP q0 i2 h1 k (by rw [h2]; exact hkn) (S.2.2.2.2 _ g2) (fun _ h => h) (v := am_v ρ (am_fa σ ci o k)) (by rw [List.getElem?_map, List.getElem?_range hkn]; rfl) hd kk
/-- what a throw of the class reads: words, texts, statics -/
def vv_W (s1 s2 : Nat) (U : State) : Prop := va_Nw (vz_d "java/lang/RuntimeException") U ∧ va_Nw (vz_d "java/lang/Exception") U ∧ va_Nw (vz_d "java/lang/Throwable") U ∧ va_Nw (.castable "java/lang/IndexOutOfBoundsException" "java/lang/IndexOutOfBoundsException") U ∧ va_Nw (.castable "java/util/NoSuchElementException" "java/util/NoSuchElementException") U ∧ va_Nc "java/util/NoSuchElementException" "java/lang/IndexOutOfBoundsException" U ∧ vk_R "InvariantLearner" 113 "no such state" s1 U ∧ vk_R "InvariantLearner" 123 "no such variable" s2 U
theorem vv_W.same {s1 s2 : Nat} {u U : State} (hv : U.vm = u.vm) (h : vv_W s1 s2 u) : vv_W s1 s2 U := by
  have ha : u.vm.Alike U.vm := by rw [hv]; exact Vm.Alike.refl u.vm
  exact ⟨h.1.same rfl hv.symm, h.2.1.same rfl hv.symm, h.2.2.1.same rfl hv.symm, h.2.2.2.1.same rfl hv.symm, h.2.2.2.2.1.same rfl hv.symm, h.2.2.2.2.2.1.moved ha, h.2.2.2.2.2.2.1.same hv, h.2.2.2.2.2.2.2.same hv⟩
theorem vv_W.warm {s1 s2 : Nat} {s U : State} (hW : s.WarmedH U.vm) (h : vv_W s1 s2 s) : vv_W s1 s2 U :=
  ⟨va_Nw.warmD hW h.1, va_Nw.warmD hW h.2.1, va_Nw.warmD hW h.2.2.1, va_Nw.warmC hW h.2.2.2.1, va_Nw.warmC hW h.2.2.2.2.1, h.2.2.2.2.2.1.moved hW.alike, h.2.2.2.2.2.2.1.warm hW, h.2.2.2.2.2.2.2.warm hW⟩
def vv_Z (s1 s2 : Nat) (A : Nat → Prop) (U : State) (H : Heap) : Prop := vv_W s1 s2 U ∧ vx_Zq Bundle.tN "UNASSIGNED_STACK" Bundle.steD A U H ∧ vx_Zq Bundle.tN "SUPPRESSED_SENTINEL" Bundle.listD A U H
theorem vv_Z.same {s1 s2 : Nat} {A : Nat → Prop} {u U : State} {H : Heap} (hv : U.vm = u.vm) (h : vv_Z s1 s2 A u H) : vv_Z s1 s2 A U H := by
  have ha : u.vm.Alike U.vm := by rw [hv]; exact Vm.Alike.refl u.vm
  exact ⟨h.1.same hv, h.2.1.moved ha, h.2.2.moved ha⟩
theorem vv_Z.warm {s1 s2 : Nat} {A B : Nat → Prop} {s U : State} {H : Heap} (hW : s.WarmedH U.vm) (h : vv_Z s1 s2 A s s.heap) (hq : ∀ a : Nat, a < s.heap.size → ¬ A a → H[a]? = s.heap[a]?) (hB : ∀ q, B q → A q) : vv_Z s1 s2 B U H :=
  ⟨h.1.warm hW, ((h.2.1.kept hq).moved hW.alike).narrow hB, ((h.2.2.kept hq).moved hW.alike).narrow hB⟩
theorem vz_hat1 {args : Array Value} {s : State} {s1 s2 : Nat} (hts : ∀ w ∈ am_tbl, w.before args s = true) (h : vv_W s1 s2 s) : ∀ w ∈ vz_L1, w.before args s = true :=
  vx_hat (fun w hw => hts w (vz_m1.1 w hw)) (fun w hw => by rw [vz_m1.2.1] at hw; exact hw) (vx_c (va_Nw.use rfl h.1) (vx_c (va_Nw.use rfl h.2.1) (vx_c (va_Nw.use rfl h.2.2.1) (vx_c (va_Nw.use rfl h.2.2.2.1) vx_n))))
theorem vz_hat2 {args : Array Value} {s : State} {s1 s2 : Nat} (hts : ∀ w ∈ am_tbl, w.before args s = true) (h : vv_W s1 s2 s) : ∀ w ∈ vz_L2, w.before args s = true :=
  vx_hat (fun w hw => hts w (vz_m2.1 w hw)) (fun w hw => by rw [vz_m2.2.1] at hw; exact hw) (vx_c (va_Nw.use rfl h.1) (vx_c (va_Nw.use rfl h.2.1) (vx_c (va_Nw.use rfl h.2.2.1) (vx_c (va_Nw.use rfl h.2.2.2.2.1) vx_n))))
def vv_rm : Room := { frames := 20, cells := 1, slots := 6, locals := 1000 }
def vv_Q (D : va_G) (K : Nat → ClassId) (ρ : Nat → Nat) (σ : am_St) (A : Nat → Prop) (th v : Int32) : Array Value → State → Outcome → State → Prop := fun _ st oc t => th = 0 ∧ oc = .returned (some (.int v)) ∧ va_P D am_cl (am_ws K ρ false σ) t.heap ∧ va_F A st t
def vv_X (D : va_G) (K : Nat → ClassId) (ρ : Nat → Nat) (σ : am_St) (A : Nat → Prop) (th : Int32) : String → State → State → Prop := fun E st t => (th = 1 ∧ E = "java/lang/IndexOutOfBoundsException" ∨ th = 2 ∧ E = "java/util/NoSuchElementException") ∧ va_P D am_cl (am_ws K ρ false σ) t.heap ∧ va_F A st t
section VVW
variable {p : Program} {l : Launch} {e : Env} {s : State} {m : MethodId} {args : Array Value} {below : List Frame} {meth : Method} {c : Code} {ls : Array Slot} {D : va_G} {K : Nat → ClassId} {ρ : Nat → Nat} {σ : am_St} {A : Nat → Prop} {s1 s2 : Nat} {x1 x2 th v : Int32} {H : Heap} {locs : List Loc}
theorem vv_t1 (S : CallFix p m c ya_10_value.2.1 3 s args am_tbl na_R10) (hl : l.stackTraces = false) (hlocks : meth.locks = false) (htab : ∀ x ∈ c.exceptionTable.toList, False) (hZ : vv_Z s1 s2 A s s.heap) (hP : va_P D am_cl (am_ws K ρ false σ) H) (hS : va_S A s.heap H locs) (hls : ls.size = 3) (ht : th = 1) :
    W p l e vv_rm s m args below meth c H locs 0 0 (vx_MQ below (vv_Q D K ρ σ A th v) (vv_X D K ρ σ A th) args s 1 6 A) (F0 m 11 ls []) := by
  refine vz_make (own := "InvariantLearner") (cls := "java/lang/IndexOutOfBoundsException") (Yn := "java/lang/RuntimeException") (r := ["java/lang/Exception"]) (ik := 111) (is := 113) (ic := 115) (ix := 7) (rx := Bundle.six) S.1 S.2.1 hl Bundle.six_0 Bundle.six_1 Bundle.six_2 Bundle.six_5 S.2.2.2.1 (by decide +kernel) (by decide +kernel) (by decide +kernel) (S.2.2.2.2 _ (am_in6 2 rfl rfl)) (S.2.2.2.2 _ (am_in1 23 rfl rfl)) hZ.1.2.2.2.2.2.2.1 (vz_hat1 S.2.2.2.2 hZ.1) vz_m1.2.2 hZ.2.1 hZ.2.2 hS (hls.trans S.2.2.1.symm) (am_dec td_10_value 5 rfl) (am_dec td_10_value 6 rfl) (am_dec td_10_value 7 rfl) (am_dec td_10_value 8 rfl) (by decide) (by decide) (by decide) (by decide) (fun q ce H2 q1 q2 q3 q4 q5 q6 => ?_)
  refine vx_athrow S.1 S.2.1 (am_dec td_10_value 9 rfl) ?_
  exact vx_out (E := "java/lang/IndexOutOfBoundsException") (fun x hx => (htab x hx).elim) hlocks q1 q2 q3 (fun t h1 h2 => ⟨Or.inl ⟨ht, rfl⟩, by rw [h1]; exact hP.kept (fun k q hq => q5 q.1 (hP k q hq).lt), q6.F h1⟩) hS.2.2 (Nat.le_refl _) (Nat.le_refl _)
theorem vv_t2 (S : CallFix p m c ya_10_value.2.1 3 s args am_tbl na_R10) (hl : l.stackTraces = false) (hlocks : meth.locks = false) (htab : ∀ x ∈ c.exceptionTable.toList, False) (hZ : vv_Z s1 s2 A s s.heap) (hP : va_P D am_cl (am_ws K ρ false σ) H) (hS : va_S A s.heap H locs) (hls : ls.size = 3) (ht : th = 2) :
    W p l e vv_rm s m args below meth c H locs 0 0 (vx_MQ below (vv_Q D K ρ σ A th v) (vv_X D K ρ σ A th) args s 1 6 A) (F0 m 36 ls []) := by
  refine vz_make (own := "InvariantLearner") (cls := "java/util/NoSuchElementException") (Yn := "java/lang/RuntimeException") (r := ["java/lang/Exception"]) (ik := 121) (is := 123) (ic := 125) (ix := 13) (rx := vz_r13) S.1 S.2.1 hl vz_13.1 vz_13.2.1 vz_13.2.2.1 vz_13.2.2.2 S.2.2.2.1 (by decide +kernel) (by decide +kernel) (by decide +kernel) (S.2.2.2.2 _ (am_in6 68 rfl rfl)) (S.2.2.2.2 _ (am_in1 24 rfl rfl)) hZ.1.2.2.2.2.2.2.2 (vz_hat2 S.2.2.2.2 hZ.1) vz_m2.2.2 hZ.2.1 hZ.2.2 hS (hls.trans S.2.2.1.symm) (am_dec td_10_value 17 rfl) (am_dec td_10_value 18 rfl) (am_dec td_10_value 19 rfl) (am_dec td_10_value 20 rfl) (by decide) (by decide) (by decide) (by decide) (fun q ce H2 q1 q2 q3 q4 q5 q6 => ?_)
  refine vx_athrow S.1 S.2.1 (am_dec td_10_value 21 rfl) ?_
  exact vx_out (E := "java/util/NoSuchElementException") (fun x hx => (htab x hx).elim) hlocks q1 q2 q3 (fun t h1 h2 => ⟨Or.inr ⟨ht, rfl⟩, by rw [h1]; exact hP.kept (fun k q hq => q5 q.1 (hP k q hq).lt), q6.F h1⟩) hS.2.2 (Nat.le_refl _) (Nat.le_refl _)
theorem vv_walk {s0 : st_X} (h : ci σ s0) (S : CallFix p m c ya_10_value.2.1 3 s args am_tbl na_R10) (hr : meth.sig.returnType = some .int) (hl : l.stackTraces = false) (hlocks : meth.locks = false) (htab : ∀ x ∈ c.exceptionTable.toList, False) (hK : va_K D am_cl (am_tys K) s) (hA : am_HA ρ s A) (hZ : vv_Z s1 s2 A s s.heap) (hP : va_P D am_cl (am_ws K ρ false σ) s.heap) (hD : va_D A (am_ws K ρ false σ)) (hls : lv_has ls 3 [(0, .ref (ρ (am_oid 0))), (1, .int x1), (2, .int x2)]) :
    W p l e vv_rm s m args below meth c s.heap [] 0 0 (vx_MQ below (vv_Q D K ρ σ A (v_thr (sX_N s0) (pP_nv (sX_p s0)) x1 x2) (v_value (sX_N s0) (pP_nv (sX_p s0)) (pP_lo (sX_p s0)) (pP_wd (sX_p s0)) x1 x2)) (vv_X D K ρ σ A (v_thr (sX_N s0) (pP_nv (sX_p s0)) x1 x2)) args s 1 6 A) (F0 m 0 ls []) := by
  obtain ⟨-, hv, hW, -⟩ := h
  have hx := S.1
  have hb := S.2.1
  have hN := hW.1
  have hnv := hv.1.1
  refine lv_aload_n hx hb (am_dec td_10_value 0 rfl) rfl (lv_at hls 0 rfl) ?_
  refine vv_get (o := 0) (sd := false) S (am_dec td_10_value 1 rfl) fl_10_42 rfl (by decide) (by decide) hK hP (v := .ref (ρ (am_oid 4))) rfl ?_
  refine lv_iload_n hx hb (am_dec td_10_value 2 rfl) rfl (lv_at hls 1 rfl) ?_
  refine am_goV (sd := false) (o := 4) (ci := 9) (as := [.int x1]) (rest := []) (d := 0) S hls.1 (am_dec td_10_value 3 rfl) ml_10_107 rfl (by decide) rfl rfl (Nat.le_of_ble_eq_true rfl) (sp_9_hasState hW x1) ⟨by decide, by decide⟩ ⟨Nat.zero_le _, Nat.zero_le _⟩ hK hA hP hD va_S.rf (fun r τ H1 locs1 hq g1 g2 g3 g4 g5 => ?_)
  obtain ⟨hτ, rfl⟩ := hq
  rw [hτ] at g1
  show W p l e vv_rm s m args below meth c H1 locs1 0 0 _ (F0 m 8 ls [.int (am_bI (am_ix (sX_N s0) x1).isSome)])
  rcases am_ix_cases (sX_N s0) (by omega) x1 with ⟨i, hi, e0, e1, -, -⟩ | ⟨e1, -⟩
  · rw [e1]
    refine lv_if_ne hx hb (am_dec td_10_value 4 rfl) (tgt := 21) rfl (fun _ => ?_) (fun z => absurd z (show ¬ am_bI true = 0 by decide))
    refine lv_iload_n hx hb (am_dec td_10_value 10 rfl) rfl (lv_at hls 2 rfl) ?_
    rcases am_ix_cases (pP_nv (sX_p s0)) (by omega) x2 with ⟨j, hj, e2, e3, z1, z2⟩ | ⟨e3, z⟩
    · have eV : v_value (sX_N s0) (pP_nv (sX_p s0)) (pP_lo (sX_p s0)) (pP_wd (sX_p s0)) x1 x2 = iI (wl_v (pP_nv (sX_p s0)) (pP_lo (sX_p s0)) (pP_wd (sX_p s0)) i j) := by unfold v_value; rw [e1]; dsimp only; rw [e3]
      have eT : v_thr (sX_N s0) (pP_nv (sX_p s0)) x1 x2 = 0 := by unfold v_thr; rw [e1]; dsimp only; rw [e3]
      rw [eV, eT]
      refine lv_if_lt hx hb (am_dec td_10_value 11 rfl) (tgt := 36) rfl (fun y => absurd y z1) (fun _ => ?_)
      refine lv_iload_n hx hb (am_dec td_10_value 12 rfl) rfl (lv_at hls 2 rfl) ?_
      refine lv_aload_n hx hb (am_dec td_10_value 13 rfl) rfl (lv_at hls 0 rfl) ?_
      refine vv_get (o := 0) (sd := false) S (am_dec td_10_value 14 rfl) fl_10_42 rfl (by decide) (by decide) hK g1 (v := .ref (ρ (am_oid 4))) rfl ?_
      refine vv_get (o := 4) (sd := false) S (am_dec td_10_value 15 rfl) fl_10_118 rfl (by decide) (by decide) hK g1 (v := .int (am_I σ 4 0)) rfl ?_
      refine lv_icmp_lt hx hb (am_dec td_10_value 16 rfl) (tgt := 46) rfl (fun _ => ?_) (fun y => absurd ?_ y)
      · refine lv_aload_n hx hb (am_dec td_10_value 22 rfl) rfl (lv_at hls 0 rfl) ?_
        refine vv_get (o := 0) (sd := false) S (am_dec td_10_value 23 rfl) fl_10_42 rfl (by decide) (by decide) hK g1 (v := .ref (ρ (am_oid 4))) rfl ?_
        refine vv_get (o := 4) (sd := false) S (am_dec td_10_value 24 rfl) fl_10_126 rfl (by decide) (by decide) hK g1 (v := .ref (ρ (am_aid 4 8))) rfl ?_
        refine lv_iload_n hx hb (am_dec td_10_value 25 rfl) rfl (lv_at hls 1 rfl) ?_
        refine lv_iconst hx hb (am_dec td_10_value 26 rfl) (v := 3) rfl ?_
        refine lv_imul hx hb (am_dec td_10_value 27 rfl) ?_
        refine lv_iload_n hx hb (am_dec td_10_value 28 rfl) rfl (lv_at hls 2 rfl) ?_
        refine lv_iadd hx hb (am_dec td_10_value 29 rfl) ?_
        have e4 : x1 * 3 + x2 = nI (3 * i + j) := by rw [e0, e2, show (3 : Int32) = nI 3 from rfl, nI_mul, nI_add, Nat.mul_comm]
        rw [e4]
        have h3 : (am_fk 9 8).1 = 3 := by decide
        obtain ⟨q0, i1, i2⟩ := am_at_w (K := K) (ρ := ρ) (σ := σ) (am_in_a (sd := false) (o := 4) (ci := 9) (k := 8) rfl (by decide) h3)
        rw [am_ce_a (sd := false) (o := 4) (ci := 9) (k := 8) rfl (by decide), show am_fk 9 8 = (3, 0, 1800) by decide] at i2
        refine va_iald (n := 1800) hx hb hK g1 q0 0 i2 rfl (vp_in_nI (by omega) (by omega)) (am_dec td_10_value 30 rfl) ?_
        rw [nI_clamp (show 3 * i + j < 2 ^ 31 by omega), hv.2.2.2.2.2 i hi j hj]
        exact vx_ret (W.widen (Nat.zero_le 1) (Nat.zero_le 6) (W.zret hx hb hr rfl (fun t ht hW9 => ⟨rfl, rfl, by rw [ht]; exact g1, g5.F ht⟩) g5.2.2 (am_dec td_10_value 31 rfl) hlocks))
      · rw [hv.2.1, e2]; exact nI_lt hj (by omega)
    · have eT : v_thr (sX_N s0) (pP_nv (sX_p s0)) x1 x2 = 2 := by unfold v_thr; rw [e1]; dsimp only; rw [e3]
      refine lv_if_lt hx hb (am_dec td_10_value 11 rfl) (tgt := 36) rfl (fun _ => vv_t2 S hl hlocks htab hZ g1 g5 hls.1 eT) (fun y1 => ?_)
      refine lv_iload_n hx hb (am_dec td_10_value 12 rfl) rfl (lv_at hls 2 rfl) ?_
      refine lv_aload_n hx hb (am_dec td_10_value 13 rfl) rfl (lv_at hls 0 rfl) ?_
      refine vv_get (o := 0) (sd := false) S (am_dec td_10_value 14 rfl) fl_10_42 rfl (by decide) (by decide) hK g1 (v := .ref (ρ (am_oid 4))) rfl ?_
      refine vv_get (o := 4) (sd := false) S (am_dec td_10_value 15 rfl) fl_10_118 rfl (by decide) (by decide) hK g1 (v := .int (am_I σ 4 0)) rfl ?_
      refine lv_icmp_lt hx hb (am_dec td_10_value 16 rfl) (tgt := 46) rfl (fun y2 => ?_) (fun _ => vv_t2 S hl hlocks htab hZ g1 g5 hls.1 eT)
      exfalso
      rw [hv.2.1] at y2
      rcases z with z | z
      · exact y1 z
      · have a := Int32.lt_iff_toInt_lt.mp y2
        have b := Int32.le_iff_toInt_le.mp z
        omega
  · rw [e1]
    have eT : v_thr (sX_N s0) (pP_nv (sX_p s0)) x1 x2 = 1 := by unfold v_thr; rw [e1]
    exact lv_if_ne hx hb (am_dec td_10_value 4 rfl) (tgt := 21) rfl (fun z => absurd rfl z) (fun _ => vv_t1 S hl hlocks htab hZ g1 g5 hls.1 eT)
end VVW
def vv_P (D : va_G) (K : Nat → ClassId) (ρ : Nat → Nat) (σ : am_St) (s1 s2 sz : Nat) (x1 x2 : Int32) : Array Value → State → Prop := va_Pc [.ref (ρ (am_oid 0)), .int x1, .int x2] (fun U => U.heap.size = sz ∧ am_Z ρ (va_A (am_ws K ρ false σ) sz) U U.heap ∧ vv_Z s1 s2 (va_A (am_ws K ρ false σ) sz) U U.heap ∧ am_Wd false D K ρ (fun _ => True) σ U)
theorem vv_blind {D : va_G} {K : Nat → ClassId} {ρ : Nat → Nat} {σ : am_St} {s1 s2 sz : Nat} {x1 x2 : Int32} : FrameBlind (vv_P D K ρ σ s1 s2 sz x1 x2) := fun a U g mk q => by
  obtain ⟨q0, q1, qZ, qV, qP, qK, qD⟩ := q
  exact ⟨q0, q1, am_Z.same (u := U) rfl qZ, vv_Z.same (u := U) rfl qV, qP, va_K.moved (u := U) (U := U.calling g mk a) (Vm.Alike.refl U.vm) qK, qD⟩
theorem vv_value {σ : am_St} {s0 : st_X} (h : ci σ s0) (x1 x2 : Int32) (l : Launch) (hl : l.stackTraces = false) (D : va_G) (K : Nat → ClassId) (ρ : Nat → Nat) (s1 s2 sz : Nat) :
    vx_Met l ya_10_value.1 (.code ya_10_value.1 ya_10_value.2.1 ya_10_value.2.2.1 ya_10_value.2.2.2 :: am_tbl) vv_rm (vv_P D K ρ σ s1 s2 sz x1 x2) (vv_Q D K ρ σ (va_A (am_ws K ρ false σ) sz) (v_thr (sX_N s0) (pP_nv (sX_p s0)) x1 x2) (v_value (sX_N s0) (pP_nv (sX_p s0)) (pP_lo (sX_p s0)) (pP_wd (sX_p s0)) x1 x2)) (vv_X D K ρ σ (va_A (am_ws K ρ false σ) sz) (v_thr (sX_N s0) (pP_nv (sX_p s0)) x1 x2)) 1 6 (va_A (am_ws K ρ false σ) sz) := by
  refine vx_ofW (cc := ya_10_value.2.1) (maxL := ya_10_value.2.2.1) (ret := ya_10_value.2.2.2) rfl rfl ?_
  intro p e s m args below meth c s₁ B hml htab hv
  obtain ⟨rfl, hsz, hZ, hVZ, hP, hK, hD0⟩ := hv
  subst hsz
  have hts := atoms_spec (ws := .code ya_10_value.1 ya_10_value.2.1 ya_10_value.2.2.1 ya_10_value.2.2.2 :: am_tbl) B.pre
  have hown : s.vm.findClass na_R10 = some m.cls := findClass_of_methodNamed B.named
  have hl0 := lv_entry [.ref (ρ (am_oid 0)), .int x1, .int x2] (n := 3) (Nat.le_of_ble_eq_true rfl)
  rw [lg_entry_eq]
  exact vv_walk h ⟨B.exec, B.bytes, hml, hown, fun w hw => hts w (List.mem_cons_of_mem _ hw)⟩ B.returns hl B.notSynchronized htab hK ⟨fun q h => Or.inr h, hZ⟩ hVZ hP (hD0.self (sz := s.heap.size)) hl0
