/-! the start: both objects and the array out are made (gen14.py) -/
theorem sw_i1 : ab_mI "InvariantLearnerLaw" 17 ya_10_init 0 := ⟨Or.inl (am_in1 27 rfl rfl), (am_in1 28 rfl rfl), (am_in1 1 rfl rfl), (am_in1 29 rfl rfl), rfl, rfl, by decide, by decide, by decide +kernel, by decide⟩
theorem sw_i2 : ab_mI "InvariantLearnerLaw" 20 ya_11_init 0 := ⟨Or.inl (am_in6 86 rfl rfl), (am_in6 87 rfl rfl), (am_in1 14 rfl rfl), (am_in6 88 rfl rfl), rfl, rfl, by decide, by decide, by decide +kernel, by decide⟩
theorem sw_n1 : am_nw "InvariantLearnerLaw" 8 10 := ⟨na_R10, na_F10, 14, rfl, (am_in1 25 rfl rfl), (am_in1 26 rfl rfl), (am_in1 1 rfl rfl)⟩
theorem sw_n2 : am_nw "InvariantLearnerLaw" 18 11 := ⟨na_R11, na_F11, 50, rfl, (am_in6 84 rfl rfl), (am_in6 85 rfl rfl), (am_in1 14 rfl rfl)⟩
theorem sw_f1 : am_fullB false bj1_0 bi1_0 = true := by decide +kernel
theorem sw_f2 : am_fullB true bj1_16 bi1_16 = true := by decide +kernel
section SW
variable {p : Program} {l : Launch} {e : Env} {s : State} {m : MethodId} {below : List Frame} {meth : Method} {c : Code} {b L : Nat} {xs : Nat → Int32} {D : va_G} {K : Nat → ClassId} {Ψ : State → Prop} {ls : Array Slot} {a0 a1 a2 s1 s2 : Nat}
/-- the array out, then the loop -/
theorem sw_3 {ρ1 ρ2 : Nat → Nat} {τ1 τ2 : am_St} {H : Heap} {locs : List Loc} {cells slots : Nat} (S : CallFix p m c code 7 s #[Value.ref b] am_tbl "InvariantLearnerLaw") (hK : va_K D am_cl (am_tys K) s) (hA1 : am_HA ρ1 s (lw_A s)) (hA2 : am_HA ρ2 s (lw_A s)) (hX : va_X b L xs s s.heap) (hbl : b < s.heap.size) (hL : L ≤ 3072) (hflag : l.stackTraces = false) (hV : vv_Z s1 s2 (lw_A s) s s.heap)
    (p1 : va_P D am_cl (am_ws K ρ1 false τ1) H) (p2 : va_P D am_cl (am_ws K ρ2 true τ2) H) (d1 : va_D (lw_A s) (am_ws K ρ1 false τ1)) (d2 : va_D (lw_A s) (am_ws K ρ2 true τ2)) (ha : ∀ i ∈ am_ids false, ∀ j ∈ am_ids true, ρ1 i ≠ ρ2 j) (hS : va_S (lw_A s) s.heap H locs) (h1 : ci τ1 sX_0) (h2 : ri τ2 sX_0) (hls : lv_has ls 7 [(2, .ref (ρ2 (am_oid 16))), (1, .ref (ρ1 (am_oid 0))), (0, .ref b)]) (hc : cells ≤ 1000) (hsl : slots ≤ 100000)
    (kend : ∀ (H : Heap) (locs : List Loc) (ce sl : Nat) (ls : Array Slot), va_S (lw_A s) s.heap H locs → ce ≤ 601024 → sl ≤ 7293034 → W p l e room_1 s m #[Value.ref b] below meth c H locs ce sl Ψ (F0 m 1153 ls [])) :
    W p l e room_1 s m #[Value.ref b] below meth c H locs cells slots Ψ (F0 m 16 ls []) := by
  have hx := S.1
  have hb := S.2.1
  refine lv_iconst hx hb (am_dec td_law0 8 rfl) (v := 1) rfl ?_
  refine va_newaK (N := 1) hx hb (S.2.2.2.2 _ (am_in9 43 rfl rfl)) rfl (am_dec td_law0 9 rfl) rfl (by decide) (by decide) (by decide) (show cells + 1 ≤ 601024 by omega) (show slots + 1 ≤ 7293034 by omega) rfl (fun H5 cL f1 f2 f3 hAr hNm => ?_)
  have hKL : va_K D am_cl [(cL, .long)] s := ⟨hK.1, fun k q hk => by
    have hz : k < 1 := (List.getElem?_eq_some_iff.mp hk).1
    have h0 : k = 0 := by omega
    subst h0
    cases hk
    exact ⟨hAr, hNm⟩⟩
  have hXX : lw_X p s m meth c b L xs D K cL ρ1 ρ2 := ⟨S, hK, hKL, hA1, hA2, hX, hbl, hL⟩
  have hS5 : va_S (lw_A s) s.heap H5 locs := ⟨Nat.le_trans hS.1 (by omega), fun q h1 h2 => (f3 q (Nat.lt_of_lt_of_le h1 hS.1)).trans (hS.2.1 q h1 h2), hS.2.2⟩
  have hV5 : lw_V s D K cL ρ1 ρ2 H.size τ1 τ2 0 H5 locs := by
    refine ⟨p1.kept (fun k q hq => f3 q.1 (p1 k q hq).lt), p2.kept (fun k q hq => f3 q.1 (p2 k q hq).lt), fun k q hq => ?_, d1, d2, lw_OD hS.1, ha, fun i hi e9 => ?_, fun j hj e9 => ?_, hS5⟩
    · have hz : k < 1 := (List.getElem?_eq_some_iff.mp hq).1
      have h0 : k = 0 := by omega
      subst h0
      cases hq
      exact f1
    · obtain ⟨q0, -, i2⟩ := am_at_w (K := K) (ρ := ρ1) (σ := τ1) hi
      exact absurd (p1 q0 _ i2).lt (by rw [e9]; exact Nat.lt_irrefl _)
    · obtain ⟨q0, -, i2⟩ := am_at_w (K := K) (ρ := ρ2) (σ := τ2) hj
      exact absurd (p2 q0 _ i2).lt (by rw [e9]; exact Nat.lt_irrefl _)
  refine lv_astore_n hx hb (am_dec td_law0 10 rfl) (i := 3) rfl hls (by decide) rfl (fun ls3 hl3 => ?_)
  refine lv_iconst hx hb (am_dec td_law0 11 rfl) (v := nI 0) rfl ?_
  refine lv_istore hx hb (am_dec td_law0 12 rfl) hl3 (by decide) rfl (fun ls4 hl4 => ?_)
  exact lw_loop hXX (lc_3 hXX hflag hV) kend 512 0 sX_0 τ1 τ2 0 H5 locs (cells + 1) (slots + 1) ls4 (by omega) (by omega) (lv_sub hl4 [4, 3, 2, 1, 0] rfl) h1 h2 sX_0_ok hV5 (by omega) (by omega)
/-- the reference -/
theorem sw_2 {ρ0 ρ1 : Nat → Nat} {τ1 : am_St} {H : Heap} {locs : List Loc} {cells slots : Nat} (hZ : ∀ ρ : Nat → Nat, ρ 2000 = a0 → ρ 2001 = a1 → ρ 2002 = a2 → am_Z ρ (lw_A s) s s.heap) (hρ : ρ0 2000 = a0 ∧ ρ0 2001 = a1 ∧ ρ0 2002 = a2) (hN : am_N s) (S : CallFix p m c code 7 s #[Value.ref b] am_tbl "InvariantLearnerLaw") (hK : va_K D am_cl (am_tys K) s) (hA1 : am_HA ρ1 s (lw_A s)) (hX : va_X b L xs s s.heap) (hbl : b < s.heap.size) (hL : L ≤ 3072) (hflag : l.stackTraces = false) (hV : vv_Z s1 s2 (lw_A s) s s.heap)
    (p1 : va_P D am_cl (am_ws K ρ1 false τ1) H) (d1 : va_D (lw_A s) (am_ws K ρ1 false τ1)) (hS : va_S (lw_A s) s.heap H locs) (h1 : ci τ1 sX_0) (hls : lv_has ls 7 [(1, .ref (ρ1 (am_oid 0))), (0, .ref b)]) (hc : cells ≤ 500) (hsl : slots ≤ 50000)
    (kend : ∀ (H : Heap) (locs : List Loc) (ce sl : Nat) (ls : Array Slot), va_S (lw_A s) s.heap H locs → ce ≤ 601024 → sl ≤ 7293034 → W p l e room_1 s m #[Value.ref b] below meth c H locs ce sl Ψ (F0 m 1153 ls [])) :
    W p l e room_1 s m #[Value.ref b] below meth c H locs cells slots Ψ (F0 m 8 ls []) := by
  have hx := S.1
  have hb := S.2.1
  have hnf : am_nf 11 = 50 := by decide
  refine lw_new (o := 16) (ci := 11) (sd := true) (σ := si_M) ρ0 (am_ws K ρ1 false τ1) S (am_dec td_law0 4 rfl) sw_n2 rfl (by decide) ⟨fun _ => rfl, rfl⟩ hK p1 d1 hS (fun q h => h) (show cells + 1 ≤ 601024 by omega) (show slots + am_nf 11 ≤ 7293034 by omega) (fun q2 H3 hP3 hQ3 hE3 hne3 hS3 => ?_)
  refine lv_dup hx hb (am_dec td_law0 5 rfl) rfl ?_
  have h10 : am_up ρ0 (am_oid 16) q2 (am_oid 16) = q2 := if_pos rfl
  have hA : am_HA (am_up ρ0 (am_oid 16) q2) s (lw_A s) := ⟨fun q h => h, hZ _ ((if_neg (by decide)).trans hρ.1) ((if_neg (by decide)).trans hρ.2.1) ((if_neg (by decide)).trans hρ.2.2)⟩
  have hgo := am_goI (e := e) (below := below) (meth := meth) (l := l) (Ψ := Ψ) (R := room_1) (sd := true) (y' := ya_11_init) (x := am_oid 16) (np := 0) (as := []) (rest := [.ref q2]) (ρ := am_up ρ0 (am_oid 16) q2) (cells := cells + 1) (slots := slots + am_nf 11) S hls.1 (am_dec td_law0 6 rfl) sw_i2 (am_in6 86 rfl rfl) hN rfl (Nat.le_of_ble_eq_true rfl) (cn_16 (d := 0)) ⟨by decide, by decide⟩ ⟨show cells + 1 + 28 ≤ 601024 by omega, show slots + am_nf 11 + 27803 ≤ 7293034 by omega⟩ hK hA hQ3 hE3 hS3 (fun ρ2 τ2 H4 locs4 hag hri hP4 hD4 hz4 hk4 hS4 => by
    obtain ⟨p2, d2'⟩ := am_full_ws sw_f2 hP4 hD4
    have hF := am_freeA hE3 hS3 (fun q h => h)
    have one : ∀ q, va_A (am_wb K (am_up ρ0 (am_oid 16) q2) true si_M bj_16 bi_16) H3.size q → q = q2 ∨ H3.size ≤ q := fun q h => by
      rcases h with ⟨k, ee, h⟩ | h
      · have hz : k < 1 := (List.getElem?_eq_some_iff.mp h).1
        have h0 : k = 0 := by omega
        subst h0
        have e9 := Option.some.inj h
        exact Or.inl ((congrArg Prod.fst e9).symm.trans h10)
      · exact Or.inr h
    have p1' : va_P D am_cl (am_ws K ρ1 false τ1) H4 := hP3.kept (fun k z hz => hk4 z.1 (hP3 k z hz).lt (fun h => (one _ h).elim (hne3 k z hz) (fun h => absurd (hP3 k z hz).lt (Nat.not_lt.mpr h))))
    have hq2 : ρ2 (am_oid 16) = q2 := (hag.1 _ (List.mem_singleton.mpr rfl)).trans h10
    have ha : ∀ i ∈ am_ids false, ∀ j ∈ am_ids true, ρ1 i ≠ ρ2 j := fun i hi j hj e9 => by
      obtain ⟨k1, -, i1⟩ := am_at_w (K := K) (ρ := ρ1) (σ := τ1) hi
      obtain ⟨k2, -, i2⟩ := am_at_w (K := K) (ρ := ρ2) (σ := τ2) hj
      rcases one _ (d2'.2 k2 _ i2) with h | h
      · exact hne3 k1 _ i1 (e9.trans h)
      · exact absurd (hP3 k1 _ i1).lt (Nat.not_lt.mpr (show H3.size ≤ ρ1 i by rw [e9]; exact h))
    refine lv_astore_n hx hb (am_dec td_law0 7 rfl) (i := 2) rfl hls (by decide) rfl (fun ls2 hl2 => ?_)
    rw [← hq2] at hl2
    exact sw_3 S hK hA1 ⟨fun q h => h, hA.2.re hag⟩ hX hbl hL hflag hV p1' p2 d1 (d2'.weaken (fun k z _ h => hF z.1 h)) ha hS4 h1 hri hl2 (by omega) (by omega) kend)
  rw [h10] at hgo
  exact hgo
/-- the class -/
theorem sw_1 {ρ0 : Nat → Nat} (hZ : ∀ ρ : Nat → Nat, ρ 2000 = a0 → ρ 2001 = a1 → ρ 2002 = a2 → am_Z ρ (lw_A s) s s.heap) (hρ : ρ0 2000 = a0 ∧ ρ0 2001 = a1 ∧ ρ0 2002 = a2) (hN : am_N s) (S : CallFix p m c code 7 s #[Value.ref b] am_tbl "InvariantLearnerLaw") (hK : va_K D am_cl (am_tys K) s) (hX : va_X b L xs s s.heap) (hbl : b < s.heap.size) (hL : L ≤ 3072) (hflag : l.stackTraces = false) (hV : vv_Z s1 s2 (lw_A s) s s.heap) (hls : lv_has ls 7 [(0, .ref b)])
    (kend : ∀ (H : Heap) (locs : List Loc) (ce sl : Nat) (ls : Array Slot), va_S (lw_A s) s.heap H locs → ce ≤ 601024 → sl ≤ 7293034 → W p l e room_1 s m #[Value.ref b] below meth c H locs ce sl Ψ (F0 m 1153 ls [])) :
    W p l e room_1 s m #[Value.ref b] below meth c s.heap [] 0 0 Ψ (F0 m 0 ls []) := by
  have hx := S.1
  have hb := S.2.1
  have hnf : am_nf 10 = 14 := by decide
  refine lw_new (o := 0) (ci := 10) (sd := false) (σ := si_C) (D := D) (K := K) (A := lw_A s) ρ0 [] S (am_dec td_law0 0 rfl) sw_n1 rfl (by decide) ⟨fun _ => rfl, rfl⟩ hK (fun k z hz => by cases hz) ⟨fun i j p q hi => (by cases hi), fun k q hq => (by cases hq)⟩ va_S.rf (fun q h => h) (by decide) (show 0 + am_nf 10 ≤ 7293034 by omega) (fun q1 H1 _ hP1 hD1 _ hS1 => ?_)
  refine lv_dup hx hb (am_dec td_law0 1 rfl) rfl ?_
  have h10 : am_up ρ0 (am_oid 0) q1 (am_oid 0) = q1 := if_pos rfl
  have hA : am_HA (am_up ρ0 (am_oid 0) q1) s (lw_A s) := ⟨fun q h => h, hZ _ ((if_neg (by decide)).trans hρ.1) ((if_neg (by decide)).trans hρ.2.1) ((if_neg (by decide)).trans hρ.2.2)⟩
  have hgo := am_goI (e := e) (below := below) (meth := meth) (l := l) (Ψ := Ψ) (R := room_1) (sd := false) (y' := ya_10_init) (x := am_oid 0) (np := 0) (as := []) (rest := [.ref q1]) (ρ := am_up ρ0 (am_oid 0) q1) (cells := 0 + 1) (slots := 0 + am_nf 10) S hls.1 (am_dec td_law0 2 rfl) sw_i1 (am_in1 27 rfl rfl) hN rfl (Nat.le_of_ble_eq_true rfl) (cn_0 (d := 0)) ⟨by decide, by decide⟩ ⟨show 0 + 1 + 105 ≤ 601024 by omega, show 0 + am_nf 10 + 44751 ≤ 7293034 by omega⟩ hK hA hP1 hD1 hS1 (fun ρ1 τ1 H2 locs2 hag hci hP2 hD2 hz2 hk2 hS2 => by
    obtain ⟨p1, d1'⟩ := am_full_ws sw_f1 hP2 hD2
    have hF := am_freeA hD1 hS1 (fun q h => h)
    have hq1 : ρ1 (am_oid 0) = q1 := (hag.1 _ (List.mem_singleton.mpr rfl)).trans h10
    refine lv_astore_n hx hb (am_dec td_law0 3 rfl) (i := 1) rfl hls (by decide) rfl (fun ls1 hl1 => ?_)
    rw [← hq1] at hl1
    exact sw_2 hZ hρ hN S hK ⟨fun q h => h, hA.2.re hag⟩ hX hbl hL hflag hV p1 (d1'.weaken (fun k z _ h => hF z.1 h)) hS2 hci hl1 (by omega) (by omega) kend)
  rw [h10] at hgo
  exact hgo
end SW
