/-! what the Statement gives of the start (gen14.py) -/
theorem st_in {w : Cond} (i : Nat) (h : lw_tbl[i]? = some w) : w ∈ lw_tbl := List.mem_of_getElem? h
theorem st_ins (ci : Nat) (h : ci < 12) : ∃ (C : String) (F : u_T) (N n : Nat), am_cl[ci]? = some (C, F, N) ∧ (∀ w ∈ u_ws C F N, w ∈ am_tbl) ∧ Cond.instantiable C n ∈ am_tbl := by
  match ci, h with
  | 0, _ => exact ⟨na_R0, na_F0, 13, 13, rfl, na_w0, am_in2 30 rfl rfl⟩
  | 1, _ => exact ⟨na_R1, na_F1, 15, 15, rfl, na_w1, am_in2 76 rfl rfl⟩
  | 2, _ => exact ⟨na_R2, na_F2, 16, 16, rfl, na_w2, am_in1 34 rfl rfl⟩
  | 3, _ => exact ⟨na_R3, na_F3, 6, 6, rfl, na_w3, am_in3 36 rfl rfl⟩
  | 4, _ => exact ⟨na_R4, na_F4, 12, 12, rfl, na_w4, am_in1 117 rfl rfl⟩
  | 5, _ => exact ⟨na_R5, na_F5, 13, 13, rfl, na_w5, am_in2 82 rfl rfl⟩
  | 6, _ => exact ⟨na_R6, na_F6, 8, 8, rfl, na_w6, am_in3 3 rfl rfl⟩
  | 7, _ => exact ⟨na_R7, na_F7, 5, 5, rfl, na_w7, am_in1 123 rfl rfl⟩
  | 8, _ => exact ⟨na_R8, na_F8, 8, 8, rfl, na_w8, am_in2 145 rfl rfl⟩
  | 9, _ => exact ⟨na_R9, na_F9, 16, 16, rfl, na_w9, am_in1 189 rfl rfl⟩
  | 10, _ => exact ⟨na_R10, na_F10, 14, 14, rfl, na_w10, am_in1 26 rfl rfl⟩
  | 11, _ => exact ⟨na_R11, na_F11, 50, 50, rfl, na_w11, am_in6 85 rfl rfl⟩
theorem st_A {args : Array Value} {s : State} {ty : FieldType} (h : (Cond.arrayClass ty).before args s = true) : ∃ cA : ClassId, ArrOfT s cA ty ∧ s.vm.findClass ("[" ++ ty.toString) = some cA := by
  obtain ⟨c, k, comp, h1, h2, h3⟩ := Cond.arrayClass_spec (args := args) (first := s) (o := none) (s := s) (idx := []) h
  exact ⟨c, fun n z => ⟨fun k h => (by cases h), k, h2, comp, h3⟩, h1⟩
theorem st_K {args : Array Value} {s : State} (hts : ∀ w ∈ am_tbl, w.before args s = true) : ∃ (D : va_G) (K : Nat → ClassId), va_K D am_cl (am_tys K) s := by
  have h0 : ∀ ci : Nat, ∃ q : ClassId × (Nat → Nat), ∀ z : vw_C, am_cl[ci]? = some z → u_Kn s z.1 z.2.1 z.2.2 q.1 q.2 := by
    intro ci
    by_cases hc : ci < 12
    · obtain ⟨C, F, N, n, h1, h2, h3⟩ := st_ins ci hc
      obtain ⟨cC, iS, hk⟩ := u_known hts h2 (hts _ h3)
      refine ⟨(cC, iS), fun z hz => ?_⟩
      have e : z = (C, F, N) := Option.some.inj (hz.symm.trans h1)
      rw [e]; exact hk
    · exact ⟨(0, fun _ => 0), fun z hz => absurd (show ci < 12 from (List.getElem?_eq_some_iff.mp hz).1) hc⟩
  obtain ⟨f, hf⟩ := Classical.axiomOfChoice h0
  obtain ⟨c0, a0, b0⟩ := st_A (ty := .int) (hts _ (am_in1 114 rfl rfl))
  obtain ⟨c1, a1, b1⟩ := st_A (ty := .byte) (hts _ (am_in1 113 rfl rfl))
  obtain ⟨c2, a2, b2⟩ := st_A (ty := .boolean) (hts _ (am_in1 115 rfl rfl))
  refine ⟨(fun c => (f c).1, fun c => (f c).2), fun t => if t = 0 then c0 else if t = 1 then c1 else c2, fun c q hq => hf c q hq, fun k q hk => ?_⟩
  have hk3 : k < 3 := (List.getElem?_eq_some_iff.mp hk).1
  rcases (show k = 0 ∨ k = 1 ∨ k = 2 by omega) with rfl | rfl | rfl
  · cases hk; exact ⟨a0, b0⟩
  · cases hk; exact ⟨a1, b1⟩
  · cases hk; exact ⟨a2, b2⟩
def st_tm : Term := .string "InvariantLearnerModel" 150
theorem st_n1 : Cond.exactly st_tm "java/lang/String" ∈ flatC (Jvm.Cond.and given_1 narrow_1) := by decide +kernel
theorem st_n2 : Cond.eq (.field st_tm "java/lang/String" "coder" "B") (.int 0) ∈ flatC (Jvm.Cond.and given_1 narrow_1) := by decide +kernel
theorem st_n3 : Cond.arrayOf (.field st_tm "java/lang/String" "value" "[B") .byte ∈ flatC (Jvm.Cond.and given_1 narrow_1) := by decide +kernel
theorem st_n4 : Cond.eq (.length (.field st_tm "java/lang/String" "value" "[B")) (.int (Int32.ofNat 35)) ∈ flatC (Jvm.Cond.and given_1 narrow_1) := by decide +kernel
theorem st_n5 : ∀ j, j < 35 → Cond.eq (.elem (.field st_tm "java/lang/String" "value" "[B") (.int (Int32.ofNat j))) (.int (am_tx.getD j 0)) ∈ flatC (Jvm.Cond.and given_1 narrow_1) := by decide +kernel
theorem st_no {s : State} : ∀ a : Nat, a < s.heap.size → ¬ lw_A s a := fun _ h q => absurd h (Nat.not_lt.mpr q)
theorem st_Z {args : Array Value} {s : State} (hts : ∀ w ∈ lw_tbl, w.before args s = true) (hnr : (Jvm.Cond.and given_1 narrow_1).before args s = true) : ∃ a0 a1 a2 : Nat, ∀ ρ : Nat → Nat, ρ 2000 = a0 → ρ 2001 = a1 → ρ 2002 = a2 → am_Z ρ (lw_A s) s s.heap := by
  have hs := flat_of_before _ hnr
  obtain ⟨adK, adV, h1, h2⟩ := vk_Sof (args := args) (s := s) (N := 1) (tm := fun _ => st_tm) (len := [35]) (byt := [am_tx]) (A := lw_A s) (fun i hi => by rw [show i = 0 by omega]; decide) (fun _ _ => hs _ st_n1) (fun _ _ => hs _ st_n2) (fun _ _ => hs _ st_n3)
    (fun i hi => by rw [show i = 0 by omega]; exact hs _ st_n4) (fun i hi j hj => by
      have e : i = 0 := by omega
      subst e
      exact hs _ (st_n5 j hj)) (fun i j hi hj hne => absurd (show i = j by omega) hne) st_no
  have hC : va_Z "java/lang/String" "COMPACT_STRINGS" "Z" (.int 1) (lw_A s) s s.heap := va_Zof (hts _ (st_in 1473 (by decide +kernel))) (hts _ (st_in 169 (by decide +kernel))) (va_eqi (hs _ (by decide +kernel))) st_no
  have hF : va_Zq "jdk/internal/util/Preconditions" "SIOOBE_FORMATTER" "Ljava/util/function/BiFunction;" (lw_A s) s s.heap := va_Zqof (hts _ (st_in 1489 (by decide +kernel))) (hts _ (st_in 171 (by decide +kernel))) (hs _ (by decide +kernel)) st_no
  have hS : ∀ ρ : Nat → Nat, ρ 2000 = adK 0 → ρ 2001 = adV 0 → vk_S 1 [35] [am_tx] (fun _ => ρ 2000) (fun _ => ρ 2001) (lw_A s) s s.heap := fun ρ e0 e1 => ⟨fun i hi => by
    have e : i = 0 := by omega
    subst e
    rw [e0, e1]
    exact h1.1 0 (by decide), fun i j hi hj _ => by omega⟩
  have hR : ∀ ρ : Nat → Nat, ρ 2000 = adK 0 → vk_R "InvariantLearnerModel" 150 "var start bad step if set test and " (ρ 2000) s := fun ρ e0 => by
    rw [e0]
    exact vk_R.of (hts _ (st_in 1463 (by decide +kernel))) (h2 0 (by decide))
  rcases hF with hF | ⟨t, hF⟩
  · exact ⟨adK 0, adV 0, 0, fun ρ e0 e1 _ => ⟨hS ρ e0 e1, hR ρ e0, hC, Or.inl hF⟩⟩
  · exact ⟨adK 0, adV 0, t, fun ρ e0 e1 e2 => ⟨hS ρ e0 e1, hR ρ e0, hC, Or.inr (by rw [e2]; exact hF)⟩⟩
theorem st_V {args : Array Value} {s : State} (hts : ∀ w ∈ lw_tbl, w.before args s = true) (hnr : (Jvm.Cond.and given_1 narrow_1).before args s = true) : ∃ s1 s2 : Nat, vv_Z s1 s2 (lw_A s) s s.heap := by
  have hs := flat_of_before _ hnr
  obtain ⟨s1, c1, ce1, k1, q1, -⟩ := Cond.exactly_spec (args := args) (first := s) (o := none) (s := s) (idx := []) (t := .string "InvariantLearner" 113) (cls := "java/lang/String") (hs _ (by decide +kernel))
  obtain ⟨s2, c2, ce2, k2, q2, -⟩ := Cond.exactly_spec (args := args) (first := s) (o := none) (s := s) (idx := []) (t := .string "InvariantLearner" 123) (cls := "java/lang/String") (hs _ (by decide +kernel))
  refine ⟨s1, s2, ⟨va_Nw.of rfl (hts _ (st_in 1360 (by decide +kernel))), va_Nw.of rfl (hts _ (st_in 1362 (by decide +kernel))), va_Nw.of rfl (hts _ (st_in 1364 (by decide +kernel))), va_Nw.of rfl (hts _ (st_in 1358 (by decide +kernel))), va_Nw.of rfl (hts _ (st_in 1424 (by decide +kernel))), va_Nc.of (args := args) (hs _ (by decide +kernel)), vk_R.of (hts _ (st_in 1396 (by decide +kernel))) q1, vk_R.of (hts _ (st_in 1431 (by decide +kernel))) q2⟩, ?_, ?_⟩
  · exact vx_Zqof (args := args) (hts _ (st_in 1383 (by decide +kernel))) (hts _ (st_in 174 (by decide +kernel))) (hs _ (by decide +kernel)) st_no
  · exact vx_Zqof (args := args) (hts _ (st_in 1385 (by decide +kernel))) (hts _ (st_in 174 (by decide +kernel))) (hs _ (by decide +kernel)) st_no
theorem st_N {args : Array Value} {s : State} (hts : ∀ w ∈ lw_tbl, w.before args s = true) : am_N s :=
  ⟨va_Nw.of rfl (hts _ (st_in 189 (by decide +kernel))), va_Nw.of rfl (hts _ (st_in 278 (by decide +kernel))), va_Nw.of rfl (hts _ (st_in 344 (by decide +kernel))), va_Nw.of rfl (hts _ (st_in 477 (by decide +kernel))), va_Nw.of rfl (hts _ (st_in 540 (by decide +kernel)))⟩
theorem st_flag {l : Launch} (h : l.flags = flags0) : l.stackTraces = false := by
  unfold Launch.stackTraces
  rw [h]
  decide +kernel
theorem st_D1 {A : Nat → Prop} {x : Nat × va_E} (h : A x.1) : va_D A [x] := by
  have hz : ∀ (k : Nat) (q : Nat × va_E), ([x] : va_W)[k]? = some q → k = 0 ∧ q = x := fun k q hq => by
    have hk : k < 1 := (List.getElem?_eq_some_iff.mp hq).1
    have h0 : k = 0 := by omega
    subst h0
    cases hq
    exact ⟨rfl, rfl⟩
  exact ⟨fun i j p q hi hj _ => (hz i p hi).1.trans (hz j q hj).1.symm, fun k q hq => by rw [(hz k q hq).2]; exact h⟩
theorem st_fb {σ : am_St} {ρ : Nat → Nat} {ci o j : Nat} (hz : (∀ k, am_I σ o k = 0) ∧ am_J σ o = 0) : am_v ρ (am_fb [] σ ci o j) = am_dv (am_fk ci j).1 := by
  have e1 : am_fb [] σ ci o j = am_dv (am_fk ci j).1 := by
    unfold am_fb am_dv
    by_cases h3 : (am_fk ci j).1 < 3
    · rw [if_pos (Or.inl h3)]
      have h4 : (am_fk ci j).1 = 0 ∨ (am_fk ci j).1 = 1 ∨ (am_fk ci j).1 = 2 := by omega
      unfold am_fa
      rcases h4 with h4 | h4 | h4 <;> rw [h4] <;> simp [hz.1, hz.2]
    · rw [if_neg (fun q => q.elim h3 (fun z => nomatch z)), if_neg (by omega), if_neg (by omega)]
  rw [e1]
  unfold am_dv
  split
  · rfl
  · split <;> rfl
/-- a new object of a class, blank; all that was there stays -/
theorem lw_new {p : Program} {l : Launch} {e : Env} {R : Room} {s : State} {m : MethodId} {args : Array Value} {below : List Frame} {meth : Method} {c : Code} {H : Heap} {locs : List Loc} {cells slots : Nat} {Ψ : State → Prop} {cc : ByteArray} {nL pc : Nat} {ls : Array Slot} {own : String} {D : va_G} {K : Nat → ClassId} {A : Nat → Prop} {sd : Bool} {o ci idx : Nat} {rest : List Value} {σ : am_St} (ρ : Nat → Nat) (ws : va_W)
    (S : CallFix p m c cc nL s args am_tbl own) (hd : decode cc pc = .ok (.new idx, 3)) (hw : am_nw own idx ci) (ho : am_k sd o = ci) (hc : ci < 12) (hz : (∀ k, am_I σ o k = 0) ∧ am_J σ o = 0) (hK : va_K D am_cl (am_tys K) s) (hP : va_P D am_cl ws H) (hD : va_D A ws) (hS : va_S A s.heap H locs) (hA : ∀ q, s.heap.size ≤ q → A q) (hcells : cells + 1 ≤ R.cells) (hslots : slots + am_nf ci ≤ R.slots)
    (kk : ∀ (q : Nat) (H1 : Heap), va_P D am_cl ws H1 → va_P D am_cl (am_wb K (am_up ρ (am_oid o) q) sd σ [] [am_oid o]) H1 → va_D A (am_wb K (am_up ρ (am_oid o) q) sd σ [] [am_oid o]) → (∀ (k : Nat) (z : Nat × va_E), ws[k]? = some z → z.1 ≠ q) → va_S A s.heap H1 locs → W p l e R s m args below meth c H1 locs (cells + 1) (slots + am_nf ci) Ψ (F0 m (pc + 3) ls (.ref q :: rest))) :
    W p l e R s m args below meth c H locs cells slots Ψ (F0 m pc ls rest) := by
  obtain ⟨C, F, N, ty, ⟨g1, g2, g3, g4, g5, g6⟩, g7, g8⟩ := am_cg_all ci hc
  obtain ⟨C', F', N', w0, w1, w2, w3⟩ := hw
  rw [g1] at w0
  injection w0 with w0
  injection w0 with w0 w00
  injection w00 with w00 w01
  subst w0; subst w00; subst w01
  have ht := S.2.2.2.2
  subst g2
  refine va_new (D := D) (ci := ci) (fs := (List.range (am_nf ci)).map (fun k => am_dv (am_fk ci k).1)) S.1 S.2.1 ht g3 ty g4 S.2.2.2.1 (ht _ w1) (ht _ w2) (ht _ w3) hK hP hD hS hA g1 ?_ hcells hslots hd ?_
  · intro j hj
    rw [g7 j hj]
    simp [vp_V, hj]
  · intro q H1 hP1 hD1 hS1
    have hE : am_wb K (am_up ρ (am_oid o) q) sd σ [] [am_oid o] = [(q, .inr (ci, (List.range (am_nf ci)).map (fun k => am_dv (am_fk ci k).1)))] := by
      unfold am_wb
      rw [List.map_cons, List.map_nil, am_cb_o ho, show am_up ρ (am_oid o) q (am_oid o) = q from if_pos rfl]
      rw [List.map_congr_left (fun k _ => st_fb (ρ := am_up ρ (am_oid o) q) (ci := ci) (o := o) (j := k) hz)]
    have hr : (ws ++ [(q, (.inr (ci, (List.range (am_nf ci)).map (fun k => am_dv (am_fk ci k).1)) : va_E))])[ws.length]? = some (q, .inr (ci, (List.range (am_nf ci)).map (fun k => am_dv (am_fk ci k).1))) := by
      rw [List.getElem?_append_right (Nat.le_refl _), Nat.sub_self]
      rfl
    have hl : ∀ (k : Nat) (z : Nat × va_E), ws[k]? = some z → k < ws.length ∧ (ws ++ [(q, (.inr (ci, (List.range (am_nf ci)).map (fun k => am_dv (am_fk ci k).1)) : va_E))])[k]? = some z := fun k z hk => by
      have h0 := (List.getElem?_eq_some_iff.mp hk).1
      exact ⟨h0, by rw [List.getElem?_append_left h0]; exact hk⟩
    refine kk q H1 (fun k z hk => hP1 k z (hl k z hk).2) ?_ ?_ (fun k z hk e9 => ?_) hS1
    · rw [hE]
      intro k z hk
      have h1 : k < 1 := (List.getElem?_eq_some_iff.mp hk).1
      have h0 : k = 0 := by omega
      subst h0
      cases hk
      exact hP1 ws.length _ hr
    · rw [hE]
      exact st_D1 (hD1.2 ws.length _ hr)
    · have h1 := hD1.1 k ws.length z _ (hl k z hk).2 hr e9
      have h2 := (hl k z hk).1
      omega
