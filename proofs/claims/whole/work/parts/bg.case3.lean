/-! the law's case 3: value and thrown (gen13.py) -/
theorem lw_OD {s : State} {w : Nat} {cL : ClassId} {x : Int64} (h : lw_A s w) : va_D (lw_A s) (lw_O w cL x) := by
  have hz : ∀ (k : Nat) (q : Nat × va_E), (lw_O w cL x)[k]? = some q → k = 0 ∧ q.1 = w := fun k q hq => by
    have hk : k < 1 := (List.getElem?_eq_some_iff.mp hq).1
    have h0 : k = 0 := by omega
    subst h0
    cases hq
    exact ⟨rfl, rfl⟩
  exact ⟨fun i j p q hi hj _ => (hz i p hi).1.trans (hz j q hj).1.symm, fun k q hq => by rw [(hz k q hq).2]; exact h⟩
theorem lx_good : GoodIn am_tbl (va_wsS "InvariantLearnerLaw" 35 lx_y (lx_c :: am_tbl)) := by
  intro w hw
  refine am_good ?_
  unfold va_wsS at hw
  simp only [List.cons_append, List.nil_append, List.mem_cons] at hw
  rcases hw with rfl | rfl | rfl | rfl | hw
  · exact (am_in5 233 rfl rfl)
  · exact (am_in5 234 rfl rfl)
  · exact (am_in1 0 rfl rfl)
  · exact (am_in5 235 rfl rfl)
  · exact hw
section LC3
variable {p : Program} {l : Launch} {e : Env} {s : State} {m : MethodId} {below : List Frame} {meth : Method} {c : Code} {b L : Nat} {xs : Nat → Int32} {D : va_G} {K : Nat → ClassId} {cL : ClassId} {ρ1 ρ2 : Nat → Nat} {w i : Nat} {H : Heap} {locs : List Loc} {cells slots : Nat} {Ψ : State → Prop} {ls : Array Slot} {σ1 σ2 : am_St} {s0 : st_X} {x : Int64}
/-- behind the class's value -/
theorem lc_3b (hX : lw_X p s m meth c b L xs D K cL ρ1 ρ2) (hl : lw_L b ρ1 ρ2 w i ls) (h1 : ci σ1 s0) (h2 : ri σ2 s0) (hs : sX_ok s0) (hV : lw_V s D K cL ρ1 ρ2 w σ1 σ2 x H locs) (hi : i + 5 < L) (hf : cells + 1 ≤ 601024 ∧ slots + 6 ≤ 7293034) (kk : lw_K p l e s m below meth c b D K cL ρ1 ρ2 w i cells slots Ψ) {th : Int32} (hth : th = v_thr (sX_N s0) (pP_nv (sX_p s0)) (xs (i + 1)) (xs (i + 2))) (hx0 : th = 0 → x = (v_value (sX_N s0) (pP_nv (sX_p s0)) (pP_lo (sX_p s0)) (pP_wd (sX_p s0)) (xs (i + 1)) (xs (i + 2))).toInt64) :
    W p l e room_1 s m #[Value.ref b] below meth c H locs (cells + 1) (slots + 6) Ψ (F0 m 308 ls [.int th]) := by
  have hx := hX.1.1
  have hb := hX.1.2.1
  have hS := hV.2.2.2.2.2.2.2.2.2
  refine lv_istore (nL := 7) hx hb (am_dec td_law4 9 rfl) hl (by decide) rfl (fun ls1 hl1 => ?_)
  have hL1 : lw_L b ρ1 ρ2 w i ls1 := lv_sub hl1 [1, 2, 3, 4, 5] rfl
  refine lv_aload_n hx hb (am_dec td_law4 10 rfl) rfl (lv_at hL1 2 rfl) ?_
  refine lw_arg 1 hX hL1 hS rfl (by omega) (am_dec td_law4 11 rfl) (am_dec td_law4 12 rfl) (am_dec td_law4 13 rfl) (am_dec td_law4 14 rfl) (am_dec td_law4 15 rfl) ?_
  refine lw_arg 2 hX hL1 hS rfl (by omega) (am_dec td_law4 16 rfl) (am_dec td_law4 17 rfl) (am_dec td_law4 18 rfl) (am_dec td_law4 19 rfl) (am_dec td_law4 20 rfl) ?_
  refine lw_c2 (as := [.int (xs (i + 1)), .int (xs (i + 2))]) (rest := []) hX hL1.1 (am_dec td_law4 21 rfl) (am_mV.of mt_11_value (am_in7 219 rfl rfl)) rfl rfl (Nat.le_of_ble_eq_true rfl) (lw_i1 [xs (i + 1), xs (i + 2)]) (om_value (d := 0) h2 _ _) (by decide) hf hV (fun τ H1 locs1 g1 V1 => ?_)
  obtain ⟨g0, g1⟩ := g1
  refine lv_istore (nL := 7) hx hb (am_dec td_law4 22 rfl) hl1 (by decide) rfl (fun ls2 hl2 => ?_)
  have hL2 : lw_L b ρ1 ρ2 w i ls2 := lv_sub hl2 [2, 3, 4, 5, 6] rfl
  refine lv_aload_n hx hb (am_dec td_law4 23 rfl) rfl (lv_at hL2 2 rfl) ?_
  refine lw_c2 (as := []) (rest := []) hX hL2.1 (am_dec td_law4 24 rfl) (am_mV.of mt_11_thrown (am_in7 203 rfl rfl)) rfl rfl (Nat.le_of_ble_eq_true rfl) (lw_i1 []) (om_thrown (d := 0) g1 (g0.trans hth.symm)) (by decide) hf V1 (fun τ2 H2 locs2 g2 V2 => ?_)
  refine lv_iload hx hb (am_dec td_law4 25 rfl) (lv_at hl2 1 rfl) ?_
  have out : W p l e room_1 s m #[Value.ref b] below meth c H2 locs2 (cells + 1) (slots + 6) Ψ (F0 m 356 ls2 []) :=
    lv_goto hx hb (am_dec td_law5 10 rfl) (tgt := 1147) rfl (kk s0 σ1 τ2 x H2 locs2 (cells + 1) (slots + 6) ls2 h1 g2 hs V2 hL2 (Nat.le_refl _) (Nat.le_refl _))
  refine lv_icmp_eq hx hb (am_dec td_law4 26 rfl) (tgt := 339) rfl (fun _ => ?_) (fun h => absurd rfl h)
  refine lv_iload hx hb (am_dec td_law4 29 rfl) (lv_at hl2 1 rfl) ?_
  refine lv_if_ne hx hb (am_dec td_law5 0 rfl) (tgt := 356) rfl (fun _ => out) (fun q => ?_)
  refine lv_aload_n hx hb (am_dec td_law5 1 rfl) rfl (lv_at hL2 3 rfl) ?_
  refine lv_iconst hx hb (am_dec td_law5 2 rfl) (v := 0) rfl ?_
  refine va_lald hx hb hX.2.2.1 V2.2.2.1 0 0 (n := 1) (f := fun _ => x) rfl rfl (by unfold vp_in; decide) (am_dec td_law5 3 rfl) ?_
  refine lv_iload hx hb (am_dec td_law5 4 rfl) (lv_at hl2 0 rfl) ?_
  refine lv_i2l hx hb (am_dec td_law5 5 rfl) rfl ?_
  refine W.lcmp hx hb (am_dec td_law5 6 rfl) ?_
  refine lv_if_eq hx hb (am_dec td_law5 7 rfl) (tgt := 356) rfl (fun _ => out) (fun q2 => absurd ?_ q2)
  exact (lg_cmp_eq _ _).mpr (hx0 q)
theorem lc_3 {s1 s2 : Nat} (hX : lw_X p s m meth c b L xs D K cL ρ1 ρ2) (hflag : l.stackTraces = false) (hZ : vv_Z s1 s2 (lw_A s) s s.heap) : lw_C3 p l e s m below meth c b L xs D K cL ρ1 ρ2 w Ψ := by
  intro i s0 σ1 σ2 x H locs cells slots ls hl h1 h2 hs hV hi hf kk
  have hx := hX.1.1
  have hb := hX.1.2.1
  have hV0 := hV
  obtain ⟨p1, p2, p3, d1, d2, d3, a1, a2, a3, hS⟩ := hV
  refine lv_aload_n hx hb (am_dec td_law3 26 rfl) rfl (lv_at hl 1 rfl) ?_
  refine lw_arg 1 hX hl hS rfl (by omega) (am_dec td_law3 27 rfl) (am_dec td_law3 28 rfl) (am_dec td_law3 29 rfl) (am_dec td_law4 0 rfl) (am_dec td_law4 1 rfl) ?_
  refine lw_arg 2 hX hl hS rfl (by omega) (am_dec td_law4 2 rfl) (am_dec td_law4 3 rfl) (am_dec td_law4 4 rfl) (am_dec td_law4 5 rfl) (am_dec td_law4 6 rfl) ?_
  refine lv_aload_n hx hb (am_dec td_law4 7 rfl) rfl (lv_at hl 3 rfl) ?_
  have hwA : lw_A s w := d3.2 0 _ rfl
  have hF := am_freeA d1 hS hX.2.2.2.1.1
  have hB : ∀ q, lx_A K ρ1 σ1 w H.size q → lw_A s q := fun q h => h.elim (hF q) (fun z => by rw [z]; exact hwA)
  have run := vx_runSW (e := e) (below := below) (meth := meth) (locs := locs) (As := [.ref (ρ1 (am_oid 0)), .int (xs (i + 1)), .int (xs (i + 2)), .ref w]) (rest := []) (cells := cells) (slots := slots) (R := room_1) (g := F0 m 305 ls [.ref w, .int (xs (i + 2)), .int (xs (i + 1)), .ref (ρ1 (am_oid 0))]) (H := H) hX.1 (lx_value h1 (xs (i + 1)) (xs (i + 2)) l hflag D K cL ρ1 s1 s2 w H.size x) (vx_cwSW (own := "InvariantLearnerLaw") (index := 35) 4 hX.1.2.2.2.2 lx_good rfl rfl rfl ⟨by decide, by decide, by decide +kernel⟩ ⟨by decide, by decide⟩)
    ⟨lx_blind, fun U hU hW => ⟨rfl, by rw [hU], by rw [hU]; exact hX.2.2.2.1.2.warm hW hS.2.1 hB, by rw [hU]; exact hZ.warm hW hS.2.1 hB, by rw [hU]; exact p1, by rw [hU]; exact p3, va_K.moved hW.alike hX.2.1, va_K.moved hW.alike hX.2.2.1, d1.weaken (fun _ _ _ _ => trivial), a2⟩⟩ rfl rfl hl.1 rfl (lv_room (Nat.le_of_ble_eq_true rfl)) (am_dec td_law4 8 rfl) ⟨hf.1, hf.2⟩
  intro T hT X
  obtain ⟨v, st₀, t, T', Lc, g0, X', hLc, e1, e2, ⟨hv, ⟨x', hx', q1, q3⟩, hz, hkp⟩, st⟩ := run T hT X
  injection hv with hv
  subst hv
  rw [g0, ← e1] at hz hkp
  rw [← e1] at q1 q3
  have hS1 : va_S (lw_A s) s.heap T'.heap (locs ++ Lc) := by
    refine ⟨Nat.le_trans hS.1 hz, fun q h1 h2 => ?_, fun q hq => ?_⟩
    · rw [hkp q (Nat.lt_of_lt_of_le h1 hS.1) (fun z => h2 (hB q z))]; exact hS.2.1 q h1 h2
    · rcases List.mem_append.mp hq with h | h
      · exact hS.2.2 q h
      · exact hB _ (hLc q h)
  have V1 : lw_V s D K cL ρ1 ρ2 w σ1 σ2 x' T'.heap (locs ++ Lc) := by
    refine ⟨q1, p2.kept (fun k q hq => hkp q.1 (p2 k q hq).lt (fun z => ?_)), q3, d1, d2, lw_OD hwA, a1, a2, a3, hS1⟩
    obtain ⟨j, hj, e5⟩ := am_ws_in hq
    rcases z with z | z
    · rcases z with ⟨k2, e6, z⟩ | z
      · obtain ⟨i2, hi2, e7⟩ := am_ws_in z
        exact a1 i2 hi2 j hj (e7.symm.trans e5)
      · exact absurd (p2 k q hq).lt (Nat.not_lt.mpr z)
    · exact a3 j hj (e5.symm.trans z)
  obtain ⟨t2, b1, b2⟩ := lc_3b (e := e) (below := below) (l := l) (Ψ := Ψ) hX hl h1 h2 hs V1 hi hf kk rfl hx' T' rfl X'
  exact ⟨t2, st t2 b1, b2⟩
end LC3
