/-! the law's own value(x, p0, p1, out): it catches what the class throws (gen12.py) -/
def lx_y : MethodName := ⟨"InvariantLearnerLaw", "value", "(LInvariantLearner;II[J)I"⟩
def lx_h : List (Nat × Nat × Nat × Nat) := [(0, 10, 13, 13), (0, 10, 17, 15)]
def lx_c : Cond := .codeWith lx_y method_3_code 5 (some .int) lx_h
def lx_rm : Room := { frames := 40, cells := 1, slots := 6, locals := 2000 }
def lx_A (K : Nat → ClassId) (ρ : Nat → Nat) (σ : am_St) (w sz : Nat) : Nat → Prop := fun q => va_A (am_ws K ρ false σ) sz q ∨ q = w
def lx_P (D : va_G) (K : Nat → ClassId) (cL : ClassId) (ρ : Nat → Nat) (σ : am_St) (s1 s2 w sz : Nat) (x : Int64) (x1 x2 : Int32) : Array Value → State → Prop := va_Pc [.ref (ρ (am_oid 0)), .int x1, .int x2, .ref w] (fun U => U.heap.size = sz ∧ am_Z ρ (lx_A K ρ σ w sz) U U.heap ∧ vv_Z s1 s2 (lx_A K ρ σ w sz) U U.heap ∧ va_P D am_cl (am_ws K ρ false σ) U.heap ∧ va_P D am_cl (lw_O w cL x) U.heap ∧ va_K D am_cl (am_tys K) U ∧ va_K D am_cl [(cL, .long)] U ∧ va_D (fun _ => True) (am_ws K ρ false σ) ∧ (∀ i ∈ am_ids false, ρ i ≠ w))
def lx_Q (D : va_G) (K : Nat → ClassId) (cL : ClassId) (ρ : Nat → Nat) (σ : am_St) (w : Nat) (A : Nat → Prop) (th v : Int32) : Array Value → State → Outcome → State → Prop := fun _ st oc t => oc = .returned (some (.int th)) ∧ (∃ x' : Int64, (th = 0 → x' = v.toInt64) ∧ va_P D am_cl (am_ws K ρ false σ) t.heap ∧ va_P D am_cl (lw_O w cL x') t.heap) ∧ va_F A st t
theorem lx_blind {D : va_G} {K : Nat → ClassId} {cL : ClassId} {ρ : Nat → Nat} {σ : am_St} {s1 s2 w sz : Nat} {x : Int64} {x1 x2 : Int32} : FrameBlind (lx_P D K cL ρ σ s1 s2 w sz x x1 x2) := fun a U g mk q => by
  obtain ⟨q0, q1, qZ, qV, qP, qO, qK, qL, qD⟩ := q
  exact ⟨q0, q1, am_Z.same (u := U) rfl qZ, vv_Z.same (u := U) rfl qV, qP, qO, va_K.moved (u := U) (U := U.calling g mk a) (Vm.Alike.refl U.vm) qK, va_K.moved (u := U) (U := U.calling g mk a) (Vm.Alike.refl U.vm) qL, qD⟩
theorem lx_upd (cL : ClassId) (x v : Int64) : (vp_cell cL (1, .inr (.inl (fun _ => x)))).setSlot 0 (.long v) = vp_cell cL (1, .inr (.inl (fun _ => v))) := by
  rw [vp_cell_l, vp_cell_l, arrV_store]
  have e : (fun j : Fin 1 => updV (fun _ => Value.long x) 0 (.long v) j.val) = (fun _ => Value.long v) := funext (fun j => by
    have h0 : j.val = 0 := by omega
    unfold updV
    rw [if_pos h0])
  unfold arrV
  rw [e]
theorem lx_mV : am_mV "InvariantLearnerLaw" 7 ya_10_value 2 := am_mV.of mt_10_value (am_in5 238 rfl rfl)
section LXW
variable {p : Program} {l : Launch} {e : Env} {s : State} {m : MethodId} {args : Array Value} {below : List Frame} {meth : Method} {c : Code} {ls : Array Slot} {D : va_G} {K : Nat → ClassId} {cL : ClassId} {ρ : Nat → Nat} {σ : am_St} {s1 s2 w : Nat} {x : Int64} {x1 x2 th v : Int32} {H : Heap} {locs : List Loc} {A : Nat → Prop}
/-- a handler: it answers the constant -/
theorem lx_hand {q : Nat} {z : Int} {pc : Nat} (S : CallFix p m c method_3_code 5 s args am_tbl "InvariantLearnerLaw") (hr : meth.sig.returnType = some .int) (hlocks : meth.locks = false) (hls : lv_has ls 5 [(0, .ref (ρ (am_oid 0))), (1, .int x1), (2, .int x2), (3, .ref w)]) (d0 : decode method_3_code pc = .ok (.astore 4, 2)) (d2 : decode method_3_code (pc + 2) = .ok (.iconst z, 1)) (d3 : decode method_3_code (pc + 3) = .ok (.ireturn, 1)) (hz : Int32.ofInt z = th) (hne : th ≠ 0) (hP : va_P D am_cl (am_ws K ρ false σ) H) (hO : va_P D am_cl (lw_O w cL x) H) (hS : va_S A s.heap H locs) :
    W p l e lx_rm s m args below meth c H locs 1 6 (MQ below (lx_Q D K cL ρ σ w A th v) args s 1 6 A) (F0 m pc ls [.ref q]) := by
  refine lv_astore S.1 S.2.1 d0 hls (by decide) rfl (fun ls' _ => ?_)
  refine lv_iconst S.1 S.2.1 d2 hz ?_
  exact W.zret S.1 S.2.1 hr rfl (fun t ht hW => ⟨rfl, ⟨x, fun y => absurd y hne, by rw [ht]; exact hP, by rw [ht]; exact hO⟩, hS.F ht⟩) hS.2.2 d3 hlocks
theorem lx_walk (S : CallFix p m c method_3_code 5 s args am_tbl "InvariantLearnerLaw") (hr : meth.sig.returnType = some .int) (hlocks : meth.locks = false) (htab : c.exceptionTable.toList = tableOf lx_h)
    (hM : vx_Met l ya_10_value.1 (.code ya_10_value.1 ya_10_value.2.1 ya_10_value.2.2.1 ya_10_value.2.2.2 :: am_tbl) vv_rm (vv_P D K ρ σ s1 s2 s.heap.size x1 x2) (vv_Q D K ρ σ (va_A (am_ws K ρ false σ) s.heap.size) th v) (vv_X D K ρ σ (va_A (am_ws K ρ false σ) s.heap.size) th) 1 6 (va_A (am_ws K ρ false σ) s.heap.size))
    (hZ : am_Z ρ (lx_A K ρ σ w s.heap.size) s s.heap) (hVZ : vv_Z s1 s2 (lx_A K ρ σ w s.heap.size) s s.heap) (hP : va_P D am_cl (am_ws K ρ false σ) s.heap) (hO : va_P D am_cl (lw_O w cL x) s.heap) (hK : va_K D am_cl (am_tys K) s) (hKL : va_K D am_cl [(cL, .long)] s) (hD : va_D (fun _ => True) (am_ws K ρ false σ)) (hne : ∀ i ∈ am_ids false, ρ i ≠ w)
    (hls : lv_has ls 5 [(0, .ref (ρ (am_oid 0))), (1, .int x1), (2, .int x2), (3, .ref w)]) :
    W p l e lx_rm s m args below meth c s.heap [] 0 0 (MQ below (lx_Q D K cL ρ σ w (lx_A K ρ σ w s.heap.size) th v) args s 1 6 (lx_A K ρ σ w s.heap.size)) (F0 m 0 ls []) := by
  have hx := S.1
  have hb := S.2.1
  have hts := S.2.2.2.2
  refine lv_aload_n hx hb (am_dec td_val 0 rfl) rfl (lv_at hls 3 rfl) ?_
  refine lv_iconst hx hb (am_dec td_val 1 rfl) (v := 0) rfl ?_
  refine lv_aload_n hx hb (am_dec td_val 2 rfl) rfl (lv_at hls 0 rfl) ?_
  refine lv_iload_n hx hb (am_dec td_val 3 rfl) rfl (lv_at hls 1 rfl) ?_
  refine lv_iload_n hx hb (am_dec td_val 4 rfl) rfl (lv_at hls 2 rfl) ?_
  obtain ⟨w1, w2, w3, w4, w5, w6, w7, w8, w9⟩ := lx_mV
  obtain ⟨C, F, N, ty, h1, h2, h3, h4, h5, h6⟩ := am_cf_all 10 (by decide)
  have hC' : C = na_R10 := by have := h1.symm.trans (show am_cl[10]? = some (na_R10, na_F10, 14) from rfl); simp at this; exact this.1
  obtain ⟨q0, i1, i2⟩ := am_at_w (K := K) (ρ := ρ) (σ := σ) (am_in_o (sd := false) (o := 0) (ci := 10) rfl (by decide))
  rw [am_ce_o (sd := false) (o := 0) (ci := 10) rfl] at i2
  have hG : GoodIn am_tbl (wsV "InvariantLearnerLaw" 7 na_R10 ya_10_value.1 (Cond.code ya_10_value.1 ya_10_value.2.1 ya_10_value.2.2.1 ya_10_value.2.2.2 :: am_tbl)) := by
    intro w hw
    refine am_good ?_
    unfold wsV at hw
    simp only [List.cons_append, List.nil_append, List.mem_cons] at hw
    rcases hw with rfl | rfl | rfl | rfl | rfl | hw
    · exact w1
    · exact w2
    · exact w3
    · exact w4
    · exact w5
    · exact hw
  have hrecv := va_recv hK hP h1 i2
  rw [hC'] at hrecv
  have hB : ∀ q, va_A (am_ws K ρ false σ) s.heap.size q → lx_A K ρ σ w s.heap.size q := fun q h => Or.inl h
  have run := vx_runV (e := e) (below := below) (meth := meth) (locs := []) (b := ρ (am_oid 0)) (As := [.int x1, .int x2]) (rest := [.int 0, .ref w]) (C := na_R10) (cells := 0) (slots := 0) (R := lx_rm) (g := F0 m 5 ls [.int x2, .int x1, .ref (ρ (am_oid 0)), .int 0, .ref w]) S hM (cwV 2 hts hG rfl rfl rfl ⟨rfl, w6, w7, w8⟩ ⟨by decide, by decide⟩)
    ⟨vv_blind, hrecv, fun U hU hW => ⟨rfl, by rw [hU], by rw [hU]; exact hZ.warm hW (fun _ _ _ => rfl) hB, by rw [hU]; exact hVZ.warm hW (fun _ _ _ => rfl) hB, by rw [hU]; exact hP, va_K.moved hW.alike hK, hD⟩⟩ rfl rfl hls.1 rfl (lv_room (Nat.le_of_ble_eq_true rfl)) (am_dec td_val 5 rfl) ⟨by decide, by decide⟩
  have hw0 : w < s.heap.size := (hO 0 _ rfl).lt
  intro T hT X
  rcases run T hT X with ⟨r, st₀, t, T', L, g0, X', hL, e1, e2, ⟨q1, q2, q3, q4⟩, st⟩ | ⟨q, st₀, t, T', L, E, ce, g0, X', hL, e1, e2, ⟨hE, q3, q4⟩, hce, hcv, hcl, st⟩
  · injection q2 with q2
    subst q2
    obtain ⟨z1, z2⟩ := q4
    rw [g0, ← e1] at z1 z2
    rw [← e1] at q3
    have hO1 : va_P D am_cl (lw_O w cL x) T'.heap := am_ws_ap hO z2 (fun k q hq i hi => by
      have hz : k < 1 := (List.getElem?_eq_some_iff.mp hq).1
      rw [show k = 0 by omega] at hq
      cases hq
      exact hne i hi)
    have hS1 : va_S (lx_A K ρ σ w s.heap.size) s.heap T'.heap ([] ++ L) := ⟨z1, fun q h1 h2 => z2 q h1 (fun z => h2 (hB q z)), fun q hq => hB _ (hL q hq)⟩
    have kk : W p l e lx_rm s m args below meth c T'.heap ([] ++ L) 1 6 (MQ below (lx_Q D K cL ρ σ w (lx_A K ρ σ w s.heap.size) th v) args s 1 6 (lx_A K ρ σ w s.heap.size)) (F0 m 8 ls [.int v, .int 0, .ref w]) := by
      refine lv_i2l hx hb (am_dec td_val 6 rfl) rfl ?_
      refine W.last hx hb (hO1 0 _ rfl) ((hKL.2 0 _ rfl).1 1 (fun _ => .long x)) (fun q => by cases q) (by show ¬ ((0 : Int32) < 0 ∨ (arrV _ _ _).slots.size ≤ _); rw [arrV_size]; exact (show ¬ ((0 : Int32) < 0 ∨ 1 ≤ (0 : Int32).toNatClampNeg) by decide)) rfl rfl (am_dec td_val 7 rfl) (fun H2 f1 f2 f3 => ?_)
      have hO2 : va_P D am_cl (lw_O w cL v.toInt64) H2 := fun k q hq => by
        have hz : k < 1 := (List.getElem?_eq_some_iff.mp hq).1
        rw [show k = 0 by omega] at hq
        cases hq
        show H2[w]? = some (vp_cell cL (1, .inr (.inl (fun _ => v.toInt64))))
        rw [f1, ← lx_upd cL x]
        rfl
      have hP2 : va_P D am_cl (am_ws K ρ false σ) H2 := q3.kept (fun k q hq => f3 q.1 (by
        obtain ⟨i, hi, e5⟩ := am_ws_in hq
        rw [e5]; exact hne i hi))
      have hS2 := hS1.put (k := (0 : Int32).toNatClampNeg) f2 f3 (Or.inr rfl)
      refine lv_goto hx hb (am_dec td_val 8 rfl) (tgt := 21) rfl ?_
      refine lv_iconst hx hb (am_dec td_val 15 rfl) (v := th) (by rw [q1]; rfl) ?_
      exact W.zret hx hb hr rfl (fun t ht hW => ⟨rfl, ⟨v.toInt64, fun _ => rfl, by rw [ht]; exact hP2, by rw [ht]; exact hO2⟩, hS2.F ht⟩) hS2.2.2 (am_dec td_val 16 rfl) hlocks
    obtain ⟨t2, a1, b1⟩ := kk T' rfl X'
    exact ⟨t2, st t2 a1, b1⟩
  · obtain ⟨z1, z2⟩ := q4
    rw [g0, ← e1] at z1 z2
    rw [← e1] at q3 hce
    have hO1 : va_P D am_cl (lw_O w cL x) T'.heap := am_ws_ap hO z2 (fun k q hq i hi => by
      have hz : k < 1 := (List.getElem?_eq_some_iff.mp hq).1
      rw [show k = 0 by omega] at hq
      cases hq
      exact hne i hi)
    have hS1 : va_S (lx_A K ρ σ w s.heap.size) s.heap T'.heap ([] ++ L) := ⟨z1, fun q h1 h2 => z2 q h1 (fun z => h2 (hB q z)), fun q hq => hB _ (hL q hq)⟩
    have kx : vx_W p l e lx_rm s m args below meth c T'.heap ([] ++ L) 1 6 (MQ below (lx_Q D K cL ρ σ w (lx_A K ρ σ w s.heap.size) th v) args s 1 6 (lx_A K ρ σ w s.heap.size)) (F0 m 5 ls [.int 0, .ref w]) q := by
      rcases hE with ⟨hth, rfl⟩ | ⟨hth, rfl⟩
      · exact vx_catch (own := "InvariantLearnerLaw") (name := "java/lang/IndexOutOfBoundsException") (E := "java/lang/IndexOutOfBoundsException") S.2.2.2.1 [] ⟨0, 10, 13, 13⟩ [⟨0, 10, 17, 15⟩] htab (fun z hz => nomatch hz) (by decide) (by decide) (hts _ (am_in5 236 rfl rfl)) (va_Nw.use rfl hVZ.1.2.2.2.1) hce hcv hcl
          (lx_hand S hr hlocks hls (am_dec td_val 9 rfl) (am_dec td_val 10 rfl) (am_dec td_val 11 rfl) (by rw [hth]; rfl) (by rw [hth]; decide) q3 hO1 hS1)
      · exact vx_catch (own := "InvariantLearnerLaw") (name := "java/util/NoSuchElementException") (E := "java/util/NoSuchElementException") S.2.2.2.1 [⟨0, 10, 13, 13⟩] ⟨0, 10, 17, 15⟩ [] htab (fun z hz => by
            rw [List.mem_singleton.mp hz]
            exact Or.inr ⟨by decide, "java/lang/IndexOutOfBoundsException", hts _ (am_in5 236 rfl rfl), hVZ.1.2.2.2.2.2.1⟩) (by decide) (by decide) (hts _ (am_in5 237 rfl rfl)) (va_Nw.use rfl hVZ.1.2.2.2.2.1) hce hcv hcl
          (lx_hand S hr hlocks hls (am_dec td_val 12 rfl) (am_dec td_val 13 rfl) (am_dec td_val 14 rfl) (by rw [hth]; rfl) (by rw [hth]; decide) q3 hO1 hS1)
    obtain ⟨t2, a1, b1⟩ := kx T' rfl X'
    exact ⟨t2, st.trans a1, b1⟩
end LXW
theorem lx_value {σ : am_St} {s0 : st_X} (h : ci σ s0) (x1 x2 : Int32) (l : Launch) (hl : l.stackTraces = false) (D : va_G) (K : Nat → ClassId) (cL : ClassId) (ρ : Nat → Nat) (s1 s2 w sz : Nat) (x : Int64) :
    Met l lx_y (lx_c :: am_tbl) lx_rm (lx_P D K cL ρ σ s1 s2 w sz x x1 x2) (lx_Q D K cL ρ σ w (lx_A K ρ σ w sz) (v_thr (sX_N s0) (pP_nv (sX_p s0)) x1 x2) (v_value (sX_N s0) (pP_nv (sX_p s0)) (pP_lo (sX_p s0)) (pP_wd (sX_p s0)) x1 x2)) 1 6 (lx_A K ρ σ w sz) := by
  refine va_MetW (cc := method_3_code) (maxL := 5) (ret := some .int) (hh := lx_h) rfl rfl ?_
  intro p e s m args below meth c s₁ B hml hv
  obtain ⟨rfl, hsz, hZ, hVZ, hP, hO, hK, hKL, hD, hne⟩ := hv
  subst hsz
  have hts := atoms_spec (ws := lx_c :: am_tbl) B.pre
  have hown : s.vm.findClass "InvariantLearnerLaw" = some m.cls := findClass_of_methodNamed B.named
  have htab := vx_table (hh := lx_h) (bytes := method_3_code) (maxL' := 5) (ret' := some .int) (x := lx_y) B (hts _ List.mem_cons_self)
  have hl0 := lv_entry [.ref (ρ (am_oid 0)), .int x1, .int x2, .ref w] (n := 5) (Nat.le_of_ble_eq_true rfl)
  rw [lg_entry_eq]
  exact lx_walk ⟨B.exec, B.bytes, hml, hown, fun w hw => hts w (List.mem_cons_of_mem _ hw)⟩ B.returns B.notSynchronized htab (vv_value h x1 x2 l hl D K ρ s1 s2 s.heap.size) hZ hVZ hP hO hK hKL hD hne hl0
