/-! the law's cases but value, PRINTED by gen8.py -/
def lw_ne (x : Int32) : Bool := !(x == 0)
theorem lw_i1 (l : List Int32) : ∀ z ∈ l.map Value.int, ∃ u, z = .int u := fun z hz => by
  obtain ⟨u, -, rfl⟩ := List.mem_map.mp hz
  exact ⟨u, rfl⟩
theorem lw_okw {s : st_X} (hs : sX_ok s) (x1 x2 : Bool) : sX_ok (sX_sw s x1 x2) := ⟨hs.1, hs.2.1, hs.2.2.1, hs.2.2.2⟩
/-- behind a call of the script the law goes on at its iinc -/
def lw_K (p : Program) (l : Launch) (e : Env) (s : State) (m : MethodId) (below : List Frame) (meth : Method) (c : Code) (b : Nat) (D : va_G) (K : Nat → ClassId) (cL : ClassId) (ρ1 ρ2 : Nat → Nat) (w i cells slots : Nat) (Ψ : State → Prop) : Prop :=
  ∀ (s0 : st_X) (σ1 σ2 : am_St) (x : Int64) (H : Heap) (locs : List Loc) (ce sl : Nat) (ls : Array Slot), ci σ1 s0 → ri σ2 s0 → sX_ok s0 → lw_V s D K cL ρ1 ρ2 w σ1 σ2 x H locs → lw_L b ρ1 ρ2 w i ls → ce ≤ cells + 1 → sl ≤ slots + 6 → W p l e room_1 s m #[Value.ref b] below meth c H locs ce sl Ψ (F0 m 1147 ls [])
section LWB
variable {p : Program} {l : Launch} {e : Env} {s : State} {m : MethodId} {below : List Frame} {meth : Method} {c : Code} {b L : Nat} {xs : Nat → Int32} {D : va_G} {K : Nat → ClassId} {cL : ClassId} {ρ1 ρ2 : Nat → Nat} {w i : Nat} {H : Heap} {locs : List Loc} {cells slots : Nat} {Ψ : State → Prop} {pc : Nat} {ls : Array Slot} {rest : List Value} {σ1 σ2 : am_St} {s0 : st_X} {x : Int64}
theorem lw_argB {z : Int} {o1 o2 : Int} (j : Nat) (hX : lw_X p s m meth c b L xs D K cL ρ1 ρ2) (hl : lw_L b ρ1 ρ2 w i ls) (hS : va_S (lw_A s) s.heap H locs) (hz : Int32.ofInt z = nI j) (hi : i + j < L) (d0 : decode code pc = .ok (.aload_n 0, 1)) (d1 : decode code (pc + 1) = .ok (.iload 4, 2)) (d3 : decode code (pc + 3) = .ok (.iconst z, 1)) (d4 : decode code (pc + 4) = .ok (.iadd, 1)) (d5 : decode code (pc + 5) = .ok (.iaload, 1)) (d6 : decode code (pc + 6) = .ok (.ifCond .eq o1, 3)) (d7 : decode code (pc + 9) = .ok (.iconst 1, 1)) (d8 : decode code (pc + 10) = .ok (.goto o2, 3)) (d9 : decode code (pc + 13) = .ok (.iconst 0, 1)) (e1 : o1 = 7) (e2 : o2 = 4)
    (k : W p l e room_1 s m #[Value.ref b] below meth c H locs cells slots Ψ (F0 m (pc + 14) ls (.int (am_bI (lw_ne (xs (i + j)))) :: rest))) : W p l e room_1 s m #[Value.ref b] below meth c H locs cells slots Ψ (F0 m pc ls rest) := by
  have hx := hX.1.1
  have hb := hX.1.2.1
  subst e1 e2
  refine lw_arg j hX hl hS hz hi d0 d1 d3 d4 d5 ?_
  refine lv_if_eq hx hb d6 (tgt := pc + 13) (by omega) (fun q => ?_) (fun q => ?_)
  · refine lv_iconst hx hb d9 rfl ?_
    have e0 : am_bI (lw_ne (xs (i + j))) = Int32.ofInt 0 := by rw [q]; rfl
    rw [e0] at k
    exact k
  · refine lv_iconst hx hb d7 rfl ?_
    refine lv_goto hx hb d8 (tgt := pc + 14) (by omega) ?_
    have e0 : am_bI (lw_ne (xs (i + j))) = Int32.ofInt 1 := by
      have : lw_ne (xs (i + j)) = true := by unfold lw_ne; simp [q]
      rw [this]; rfl
    rw [e0] at k
    exact k
theorem lc_0 (hX : lw_X p s m meth c b L xs D K cL ρ1 ρ2) (hl : lw_L b ρ1 ρ2 w i ls) (h1 : ci σ1 s0) (h2 : ri σ2 s0) (hs : sX_ok s0) (hV : lw_V s D K cL ρ1 ρ2 w σ1 σ2 x H locs) (hi : i + 5 < L) (hf : cells ≤ 601024 ∧ slots ≤ 7293034) (kk : lw_K p l e s m below meth c b D K cL ρ1 ρ2 w i cells slots Ψ) : W p l e room_1 s m #[Value.ref b] below meth c H locs cells slots Ψ (F0 m 168 ls []) := by
  have hx := hX.1.1
  have hb := hX.1.2.1
  have hS := hV.2.2.2.2.2.2.2.2.2
  refine lv_aload_n hx hb (am_dec td_law0 25 rfl) rfl (lv_at hl 1 rfl) ?_
  refine lw_arg 1 hX hl hS rfl (by omega) (am_dec td_law0 26 rfl) (am_dec td_law0 27 rfl) (am_dec td_law0 28 rfl) (am_dec td_law0 29 rfl) (am_dec td_law1 0 rfl) ?_
  refine lw_arg 2 hX hl hS rfl (by omega) (am_dec td_law1 1 rfl) (am_dec td_law1 2 rfl) (am_dec td_law1 3 rfl) (am_dec td_law1 4 rfl) (am_dec td_law1 5 rfl) ?_
  refine lw_arg 3 hX hl hS rfl (by omega) (am_dec td_law1 6 rfl) (am_dec td_law1 7 rfl) (am_dec td_law1 8 rfl) (am_dec td_law1 9 rfl) (am_dec td_law1 10 rfl) ?_
  refine lw_arg 4 hX hl hS rfl (by omega) (am_dec td_law1 11 rfl) (am_dec td_law1 12 rfl) (am_dec td_law1 13 rfl) (am_dec td_law1 14 rfl) (am_dec td_law1 15 rfl) ?_
  refine lw_arg 5 hX hl hS rfl (by omega) (am_dec td_law1 16 rfl) (am_dec td_law1 17 rfl) (am_dec td_law1 18 rfl) (am_dec td_law1 19 rfl) (am_dec td_law1 20 rfl) ?_
  refine lw_c1 (as := [.int (xs (i + 1)), .int (xs (i + 2)), .int (xs (i + 3)), .int (xs (i + 4)), .int (xs (i + 5))]) (rest := []) hX hl.1 (am_dec td_law1 21 rfl) (am_mV.of mt_10_feed (am_in3 182 rfl rfl)) rfl rfl (Nat.le_of_ble_eq_true rfl) (lw_i1 [(xs (i + 1)), (xs (i + 2)), (xs (i + 3)), (xs (i + 4)), (xs (i + 5))]) (oc_feed (d := 0) h1 hs _ _ _ _ _) (by decide) hf hV (fun τ1 H1 locs1 g1 V1 => ?_)
  have hS1 := V1.2.2.2.2.2.2.2.2.2
  refine lv_aload_n hx hb (am_dec td_law1 22 rfl) rfl (lv_at hl 2 rfl) ?_
  refine lw_arg 1 hX hl hS1 rfl (by omega) (am_dec td_law1 23 rfl) (am_dec td_law1 24 rfl) (am_dec td_law1 25 rfl) (am_dec td_law1 26 rfl) (am_dec td_law1 27 rfl) ?_
  refine lw_arg 2 hX hl hS1 rfl (by omega) (am_dec td_law1 28 rfl) (am_dec td_law1 29 rfl) (am_dec td_law2 0 rfl) (am_dec td_law2 1 rfl) (am_dec td_law2 2 rfl) ?_
  refine lw_arg 3 hX hl hS1 rfl (by omega) (am_dec td_law2 3 rfl) (am_dec td_law2 4 rfl) (am_dec td_law2 5 rfl) (am_dec td_law2 6 rfl) (am_dec td_law2 7 rfl) ?_
  refine lw_arg 4 hX hl hS1 rfl (by omega) (am_dec td_law2 8 rfl) (am_dec td_law2 9 rfl) (am_dec td_law2 10 rfl) (am_dec td_law2 11 rfl) (am_dec td_law2 12 rfl) ?_
  refine lw_arg 5 hX hl hS1 rfl (by omega) (am_dec td_law2 13 rfl) (am_dec td_law2 14 rfl) (am_dec td_law2 15 rfl) (am_dec td_law2 16 rfl) (am_dec td_law2 17 rfl) ?_
  refine lw_c2 (as := [.int (xs (i + 1)), .int (xs (i + 2)), .int (xs (i + 3)), .int (xs (i + 4)), .int (xs (i + 5))]) (rest := [.int _]) hX hl.1 (am_dec td_law2 18 rfl) (am_mV.of mt_11_feed (am_in7 207 rfl rfl)) rfl rfl (Nat.le_of_ble_eq_true rfl) (lw_i1 [(xs (i + 1)), (xs (i + 2)), (xs (i + 3)), (xs (i + 4)), (xs (i + 5))]) (om_feed (d := 0) h2 hs _ _ _ _ _) (by decide) hf V1 (fun τ2 H2 locs2 g2 V2 => ?_)
  exact lv_icmp_eq hx hb (am_dec td_law2 19 rfl) rfl (fun _ => kk _ τ1 τ2 x H2 locs2 cells slots ls g1 g2 (v_feed_ok hs _ _ _ _ _) V2 hl (Nat.le_add_right _ _) (Nat.le_add_right _ _)) (fun h => absurd rfl h)
theorem lc_1 (hX : lw_X p s m meth c b L xs D K cL ρ1 ρ2) (hl : lw_L b ρ1 ρ2 w i ls) (h1 : ci σ1 s0) (h2 : ri σ2 s0) (hs : sX_ok s0) (hV : lw_V s D K cL ρ1 ρ2 w σ1 σ2 x H locs) (hi : i + 5 < L) (hf : cells ≤ 601024 ∧ slots ≤ 7293034) (kk : lw_K p l e s m below meth c b D K cL ρ1 ρ2 w i cells slots Ψ) : W p l e room_1 s m #[Value.ref b] below meth c H locs cells slots Ψ (F0 m 241 ls []) := by
  have hx := hX.1.1
  have hb := hX.1.2.1
  have hS := hV.2.2.2.2.2.2.2.2.2
  refine lv_aload_n hx hb (am_dec td_law2 22 rfl) rfl (lv_at hl 1 rfl) ?_
  refine lw_arg 1 hX hl hS rfl (by omega) (am_dec td_law2 23 rfl) (am_dec td_law2 24 rfl) (am_dec td_law2 25 rfl) (am_dec td_law2 26 rfl) (am_dec td_law2 27 rfl) ?_
  refine lw_c1 (as := [.int (xs (i + 1))]) (rest := []) hX hl.1 (am_dec td_law2 28 rfl) (am_mV.of mt_10_text (am_in3 190 rfl rfl)) rfl rfl (Nat.le_of_ble_eq_true rfl) (lw_i1 [(xs (i + 1))]) (sp_10_text (d := 0) h1 hs _) (by decide) hf hV (fun τ1 H1 locs1 g1 V1 => ?_)
  have hS1 := V1.2.2.2.2.2.2.2.2.2
  refine lv_aload_n hx hb (am_dec td_law2 29 rfl) rfl (lv_at hl 2 rfl) ?_
  refine lw_arg 1 hX hl hS1 rfl (by omega) (am_dec td_law3 0 rfl) (am_dec td_law3 1 rfl) (am_dec td_law3 2 rfl) (am_dec td_law3 3 rfl) (am_dec td_law3 4 rfl) ?_
  refine lw_c2 (as := [.int (xs (i + 1))]) (rest := [.int _]) hX hl.1 (am_dec td_law3 5 rfl) (am_mV.of mt_11_text (am_in7 211 rfl rfl)) rfl rfl (Nat.le_of_ble_eq_true rfl) (lw_i1 [(xs (i + 1))]) (om_text (d := 0) h2 hs _) (by decide) hf V1 (fun τ2 H2 locs2 g2 V2 => ?_)
  exact lv_icmp_eq hx hb (am_dec td_law3 6 rfl) rfl (fun _ => kk _ τ1 τ2 x H2 locs2 cells slots ls g1 g2 (v_text_ok hs _) V2 hl (Nat.le_add_right _ _) (Nat.le_add_right _ _)) (fun h => absurd rfl h)
theorem lc_2 (hX : lw_X p s m meth c b L xs D K cL ρ1 ρ2) (hl : lw_L b ρ1 ρ2 w i ls) (h1 : ci σ1 s0) (h2 : ri σ2 s0) (hs : sX_ok s0) (hV : lw_V s D K cL ρ1 ρ2 w σ1 σ2 x H locs) (hi : i + 5 < L) (hf : cells ≤ 601024 ∧ slots ≤ 7293034) (kk : lw_K p l e s m below meth c b D K cL ρ1 ρ2 w i cells slots Ψ) : W p l e room_1 s m #[Value.ref b] below meth c H locs cells slots Ψ (F0 m 266 ls []) := by
  have hx := hX.1.1
  have hb := hX.1.2.1
  have hS := hV.2.2.2.2.2.2.2.2.2
  refine lv_aload_n hx hb (am_dec td_law3 9 rfl) rfl (lv_at hl 1 rfl) ?_
  refine lw_arg 1 hX hl hS rfl (by omega) (am_dec td_law3 10 rfl) (am_dec td_law3 11 rfl) (am_dec td_law3 12 rfl) (am_dec td_law3 13 rfl) (am_dec td_law3 14 rfl) ?_
  refine lw_c1 (as := [.int (xs (i + 1))]) (rest := []) hX hl.1 (am_dec td_law3 15 rfl) (am_mV.of mt_10_fault (am_in4 58 rfl rfl)) rfl rfl (Nat.le_of_ble_eq_true rfl) (lw_i1 [(xs (i + 1))]) (oc_fault (d := 0) h1 _) (by decide) hf hV (fun τ1 H1 locs1 g1 V1 => ?_)
  have hS1 := V1.2.2.2.2.2.2.2.2.2
  refine lv_aload_n hx hb (am_dec td_law3 16 rfl) rfl (lv_at hl 2 rfl) ?_
  refine lw_arg 1 hX hl hS1 rfl (by omega) (am_dec td_law3 17 rfl) (am_dec td_law3 18 rfl) (am_dec td_law3 19 rfl) (am_dec td_law3 20 rfl) (am_dec td_law3 21 rfl) ?_
  refine lw_c2 (as := [.int (xs (i + 1))]) (rest := [.int _]) hX hl.1 (am_dec td_law3 22 rfl) (am_mV.of mt_11_fault (am_in7 215 rfl rfl)) rfl rfl (Nat.le_of_ble_eq_true rfl) (lw_i1 [(xs (i + 1))]) (om_fault (d := 0) h2 _) (by decide) hf V1 (fun τ2 H2 locs2 g2 V2 => ?_)
  exact lv_icmp_eq hx hb (am_dec td_law3 23 rfl) rfl (fun _ => kk _ τ1 τ2 x H2 locs2 cells slots ls g1 g2 hs V2 hl (Nat.le_add_right _ _) (Nat.le_add_right _ _)) (fun h => absurd rfl h)
theorem lc_4 (hX : lw_X p s m meth c b L xs D K cL ρ1 ρ2) (hl : lw_L b ρ1 ρ2 w i ls) (h1 : ci σ1 s0) (h2 : ri σ2 s0) (hs : sX_ok s0) (hV : lw_V s D K cL ρ1 ρ2 w σ1 σ2 x H locs) (hi : i + 5 < L) (hf : cells ≤ 601024 ∧ slots ≤ 7293034) (kk : lw_K p l e s m below meth c b D K cL ρ1 ρ2 w i cells slots Ψ) : W p l e room_1 s m #[Value.ref b] below meth c H locs cells slots Ψ (F0 m 359 ls []) := by
  have hx := hX.1.1
  have hb := hX.1.2.1
  have hS := hV.2.2.2.2.2.2.2.2.2
  refine lv_aload_n hx hb (am_dec td_law5 11 rfl) rfl (lv_at hl 1 rfl) ?_
  refine lw_arg 1 hX hl hS rfl (by omega) (am_dec td_law5 12 rfl) (am_dec td_law5 13 rfl) (am_dec td_law5 14 rfl) (am_dec td_law5 15 rfl) (am_dec td_law5 16 rfl) ?_
  refine lw_arg 2 hX hl hS rfl (by omega) (am_dec td_law5 17 rfl) (am_dec td_law5 18 rfl) (am_dec td_law5 19 rfl) (am_dec td_law5 20 rfl) (am_dec td_law5 21 rfl) ?_
  refine lw_arg 3 hX hl hS rfl (by omega) (am_dec td_law5 22 rfl) (am_dec td_law5 23 rfl) (am_dec td_law5 24 rfl) (am_dec td_law5 25 rfl) (am_dec td_law5 26 rfl) ?_
  refine lw_c1 (as := [.int (xs (i + 1)), .int (xs (i + 2)), .int (xs (i + 3))]) (rest := []) hX hl.1 (am_dec td_law5 27 rfl) (am_mV.of mt_10_stateOf (am_in4 62 rfl rfl)) rfl rfl (Nat.le_of_ble_eq_true rfl) (lw_i1 [(xs (i + 1)), (xs (i + 2)), (xs (i + 3))]) (oc_stateOf (d := 0) h1 _ _ _) (by decide) hf hV (fun τ1 H1 locs1 g1 V1 => ?_)
  have hS1 := V1.2.2.2.2.2.2.2.2.2
  refine lv_aload_n hx hb (am_dec td_law5 28 rfl) rfl (lv_at hl 2 rfl) ?_
  refine lw_arg 1 hX hl hS1 rfl (by omega) (am_dec td_law5 29 rfl) (am_dec td_law6 0 rfl) (am_dec td_law6 1 rfl) (am_dec td_law6 2 rfl) (am_dec td_law6 3 rfl) ?_
  refine lw_arg 2 hX hl hS1 rfl (by omega) (am_dec td_law6 4 rfl) (am_dec td_law6 5 rfl) (am_dec td_law6 6 rfl) (am_dec td_law6 7 rfl) (am_dec td_law6 8 rfl) ?_
  refine lw_arg 3 hX hl hS1 rfl (by omega) (am_dec td_law6 9 rfl) (am_dec td_law6 10 rfl) (am_dec td_law6 11 rfl) (am_dec td_law6 12 rfl) (am_dec td_law6 13 rfl) ?_
  refine lw_c2 (as := [.int (xs (i + 1)), .int (xs (i + 2)), .int (xs (i + 3))]) (rest := [.int _]) hX hl.1 (am_dec td_law6 14 rfl) (am_mV.of mt_11_stateOf (am_in7 227 rfl rfl)) rfl rfl (Nat.le_of_ble_eq_true rfl) (lw_i1 [(xs (i + 1)), (xs (i + 2)), (xs (i + 3))]) (om_stateOf (d := 0) h2 _ _ _) (by decide) hf V1 (fun τ2 H2 locs2 g2 V2 => ?_)
  exact lv_icmp_eq hx hb (am_dec td_law6 15 rfl) rfl (fun _ => kk _ τ1 τ2 x H2 locs2 cells slots ls g1 g2 hs V2 hl (Nat.le_add_right _ _) (Nat.le_add_right _ _)) (fun h => absurd rfl h)
theorem lc_5 (hX : lw_X p s m meth c b L xs D K cL ρ1 ρ2) (hl : lw_L b ρ1 ρ2 w i ls) (h1 : ci σ1 s0) (h2 : ri σ2 s0) (hs : sX_ok s0) (hV : lw_V s D K cL ρ1 ρ2 w σ1 σ2 x H locs) (hi : i + 5 < L) (hf : cells ≤ 601024 ∧ slots ≤ 7293034) (kk : lw_K p l e s m below meth c b D K cL ρ1 ρ2 w i cells slots Ψ) : W p l e room_1 s m #[Value.ref b] below meth c H locs cells slots Ψ (F0 m 408 ls []) := by
  have hx := hX.1.1
  have hb := hX.1.2.1
  have hS := hV.2.2.2.2.2.2.2.2.2
  refine lv_aload_n hx hb (am_dec td_law6 18 rfl) rfl (lv_at hl 1 rfl) ?_
  refine lw_arg 1 hX hl hS rfl (by omega) (am_dec td_law6 19 rfl) (am_dec td_law6 20 rfl) (am_dec td_law6 21 rfl) (am_dec td_law6 22 rfl) (am_dec td_law6 23 rfl) ?_
  refine lw_arg 2 hX hl hS rfl (by omega) (am_dec td_law6 24 rfl) (am_dec td_law6 25 rfl) (am_dec td_law6 26 rfl) (am_dec td_law6 27 rfl) (am_dec td_law6 28 rfl) ?_
  refine lw_c1 (as := [.int (xs (i + 1)), .int (xs (i + 2))]) (rest := []) hX hl.1 (am_dec td_law6 29 rfl) (am_mV.of mt_10_is (am_in4 70 rfl rfl)) rfl rfl (Nat.le_of_ble_eq_true rfl) (lw_i1 [(xs (i + 1)), (xs (i + 2))]) (oc_is (d := 0) h1 _ _) (by decide) hf hV (fun τ1 H1 locs1 g1 V1 => ?_)
  have hS1 := V1.2.2.2.2.2.2.2.2.2
  refine lv_aload_n hx hb (am_dec td_law7 0 rfl) rfl (lv_at hl 2 rfl) ?_
  refine lw_arg 1 hX hl hS1 rfl (by omega) (am_dec td_law7 1 rfl) (am_dec td_law7 2 rfl) (am_dec td_law7 3 rfl) (am_dec td_law7 4 rfl) (am_dec td_law7 5 rfl) ?_
  refine lw_arg 2 hX hl hS1 rfl (by omega) (am_dec td_law7 6 rfl) (am_dec td_law7 7 rfl) (am_dec td_law7 8 rfl) (am_dec td_law7 9 rfl) (am_dec td_law7 10 rfl) ?_
  refine lw_c2 (as := [.int (xs (i + 1)), .int (xs (i + 2))]) (rest := [.int _]) hX hl.1 (am_dec td_law7 11 rfl) (am_mV.of mt_11_is (am_in7 231 rfl rfl)) rfl rfl (Nat.le_of_ble_eq_true rfl) (lw_i1 [(xs (i + 1)), (xs (i + 2))]) (om_is (d := 0) h2 _ _) (by decide) hf V1 (fun τ2 H2 locs2 g2 V2 => ?_)
  exact lv_icmp_eq hx hb (am_dec td_law7 12 rfl) rfl (fun _ => kk _ τ1 τ2 x H2 locs2 cells slots ls g1 g2 hs V2 hl (Nat.le_add_right _ _) (Nat.le_add_right _ _)) (fun h => absurd rfl h)
theorem lc_6 (hX : lw_X p s m meth c b L xs D K cL ρ1 ρ2) (hl : lw_L b ρ1 ρ2 w i ls) (h1 : ci σ1 s0) (h2 : ri σ2 s0) (hs : sX_ok s0) (hV : lw_V s D K cL ρ1 ρ2 w σ1 σ2 x H locs) (hi : i + 5 < L) (hf : cells ≤ 601024 ∧ slots ≤ 7293034) (kk : lw_K p l e s m below meth c b D K cL ρ1 ρ2 w i cells slots Ψ) : W p l e room_1 s m #[Value.ref b] below meth c H locs cells slots Ψ (F0 m 445 ls []) := by
  have hx := hX.1.1
  have hb := hX.1.2.1
  have hS := hV.2.2.2.2.2.2.2.2.2
  refine lv_aload_n hx hb (am_dec td_law7 15 rfl) rfl (lv_at hl 1 rfl) ?_
  refine lw_arg 1 hX hl hS rfl (by omega) (am_dec td_law7 16 rfl) (am_dec td_law7 17 rfl) (am_dec td_law7 18 rfl) (am_dec td_law7 19 rfl) (am_dec td_law7 20 rfl) ?_
  refine lw_arg 2 hX hl hS rfl (by omega) (am_dec td_law7 21 rfl) (am_dec td_law7 22 rfl) (am_dec td_law7 23 rfl) (am_dec td_law7 24 rfl) (am_dec td_law7 25 rfl) ?_
  refine lw_c1 (as := [.int (xs (i + 1)), .int (xs (i + 2))]) (rest := []) hX hl.1 (am_dec td_law7 26 rfl) (am_mV.of mt_10_next (am_in4 94 rfl rfl)) rfl rfl (Nat.le_of_ble_eq_true rfl) (lw_i1 [(xs (i + 1)), (xs (i + 2))]) (oc_next (d := 0) h1 _ _) (by decide) hf hV (fun τ1 H1 locs1 g1 V1 => ?_)
  have hS1 := V1.2.2.2.2.2.2.2.2.2
  refine lv_aload_n hx hb (am_dec td_law7 27 rfl) rfl (lv_at hl 2 rfl) ?_
  refine lw_arg 1 hX hl hS1 rfl (by omega) (am_dec td_law7 28 rfl) (am_dec td_law7 29 rfl) (am_dec td_law8 0 rfl) (am_dec td_law8 1 rfl) (am_dec td_law8 2 rfl) ?_
  refine lw_arg 2 hX hl hS1 rfl (by omega) (am_dec td_law8 3 rfl) (am_dec td_law8 4 rfl) (am_dec td_law8 5 rfl) (am_dec td_law8 6 rfl) (am_dec td_law8 7 rfl) ?_
  refine lw_c2 (as := [.int (xs (i + 1)), .int (xs (i + 2))]) (rest := [.int _]) hX hl.1 (am_dec td_law8 8 rfl) (am_mV.of mt_11_next (am_in8 7 rfl rfl)) rfl rfl (Nat.le_of_ble_eq_true rfl) (lw_i1 [(xs (i + 1)), (xs (i + 2))]) (om_next (d := 0) h2 _ _) (by decide) hf V1 (fun τ2 H2 locs2 g2 V2 => ?_)
  exact lv_icmp_eq hx hb (am_dec td_law8 9 rfl) rfl (fun _ => kk _ τ1 τ2 x H2 locs2 cells slots ls g1 g2 hs V2 hl (Nat.le_add_right _ _) (Nat.le_add_right _ _)) (fun h => absurd rfl h)
theorem lc_7 (hX : lw_X p s m meth c b L xs D K cL ρ1 ρ2) (hl : lw_L b ρ1 ρ2 w i ls) (h1 : ci σ1 s0) (h2 : ri σ2 s0) (hs : sX_ok s0) (hV : lw_V s D K cL ρ1 ρ2 w σ1 σ2 x H locs) (hi : i + 5 < L) (hf : cells ≤ 601024 ∧ slots ≤ 7293034) (kk : lw_K p l e s m below meth c b D K cL ρ1 ρ2 w i cells slots Ψ) : W p l e room_1 s m #[Value.ref b] below meth c H locs cells slots Ψ (F0 m 482 ls []) := by
  have hx := hX.1.1
  have hb := hX.1.2.1
  have hS := hV.2.2.2.2.2.2.2.2.2
  refine lv_aload_n hx hb (am_dec td_law8 12 rfl) rfl (lv_at hl 1 rfl) ?_
  refine lw_arg 1 hX hl hS rfl (by omega) (am_dec td_law8 13 rfl) (am_dec td_law8 14 rfl) (am_dec td_law8 15 rfl) (am_dec td_law8 16 rfl) (am_dec td_law8 17 rfl) ?_
  refine lw_arg 2 hX hl hS rfl (by omega) (am_dec td_law8 18 rfl) (am_dec td_law8 19 rfl) (am_dec td_law8 20 rfl) (am_dec td_law8 21 rfl) (am_dec td_law8 22 rfl) ?_
  refine lw_c1 (as := [.int (xs (i + 1)), .int (xs (i + 2))]) (rest := []) hX hl.1 (am_dec td_law8 23 rfl) (am_mV.of mt_10_holds (am_in4 98 rfl rfl)) rfl rfl (Nat.le_of_ble_eq_true rfl) (lw_i1 [(xs (i + 1)), (xs (i + 2))]) (oc_holds (d := 0) h1 _ _) (by decide) hf hV (fun τ1 H1 locs1 g1 V1 => ?_)
  have hS1 := V1.2.2.2.2.2.2.2.2.2
  refine lv_aload_n hx hb (am_dec td_law8 24 rfl) rfl (lv_at hl 2 rfl) ?_
  refine lw_arg 1 hX hl hS1 rfl (by omega) (am_dec td_law8 25 rfl) (am_dec td_law8 26 rfl) (am_dec td_law8 27 rfl) (am_dec td_law8 28 rfl) (am_dec td_law8 29 rfl) ?_
  refine lw_arg 2 hX hl hS1 rfl (by omega) (am_dec td_law9 0 rfl) (am_dec td_law9 1 rfl) (am_dec td_law9 2 rfl) (am_dec td_law9 3 rfl) (am_dec td_law9 4 rfl) ?_
  refine lw_c2 (as := [.int (xs (i + 1)), .int (xs (i + 2))]) (rest := [.int _]) hX hl.1 (am_dec td_law9 5 rfl) (am_mV.of mt_11_holds (am_in8 11 rfl rfl)) rfl rfl (Nat.le_of_ble_eq_true rfl) (lw_i1 [(xs (i + 1)), (xs (i + 2))]) (om_holds (d := 0) h2 _ _) (by decide) hf V1 (fun τ2 H2 locs2 g2 V2 => ?_)
  exact lv_icmp_eq hx hb (am_dec td_law9 6 rfl) rfl (fun _ => kk _ τ1 τ2 x H2 locs2 cells slots ls g1 g2 hs V2 hl (Nat.le_add_right _ _) (Nat.le_add_right _ _)) (fun h => absurd rfl h)
theorem lc_8 (hX : lw_X p s m meth c b L xs D K cL ρ1 ρ2) (hl : lw_L b ρ1 ρ2 w i ls) (h1 : ci σ1 s0) (h2 : ri σ2 s0) (hs : sX_ok s0) (hV : lw_V s D K cL ρ1 ρ2 w σ1 σ2 x H locs) (hi : i + 5 < L) (hf : cells ≤ 601024 ∧ slots ≤ 7293034) (kk : lw_K p l e s m below meth c b D K cL ρ1 ρ2 w i cells slots Ψ) : W p l e room_1 s m #[Value.ref b] below meth c H locs cells slots Ψ (F0 m 519 ls []) := by
  have hx := hX.1.1
  have hb := hX.1.2.1
  have hS := hV.2.2.2.2.2.2.2.2.2
  refine lv_aload_n hx hb (am_dec td_law9 9 rfl) rfl (lv_at hl 1 rfl) ?_
  refine lw_arg 1 hX hl hS rfl (by omega) (am_dec td_law9 10 rfl) (am_dec td_law9 11 rfl) (am_dec td_law9 12 rfl) (am_dec td_law9 13 rfl) (am_dec td_law9 14 rfl) ?_
  refine lw_c1 (as := [.int (xs (i + 1))]) (rest := []) hX hl.1 (am_dec td_law9 15 rfl) (am_mV.of mt_10_many (am_in4 106 rfl rfl)) rfl rfl (Nat.le_of_ble_eq_true rfl) (lw_i1 [(xs (i + 1))]) (oc_many (d := 0) h1 _) (by decide) hf hV (fun τ1 H1 locs1 g1 V1 => ?_)
  have hS1 := V1.2.2.2.2.2.2.2.2.2
  refine lv_aload_n hx hb (am_dec td_law9 16 rfl) rfl (lv_at hl 2 rfl) ?_
  refine lw_arg 1 hX hl hS1 rfl (by omega) (am_dec td_law9 17 rfl) (am_dec td_law9 18 rfl) (am_dec td_law9 19 rfl) (am_dec td_law9 20 rfl) (am_dec td_law9 21 rfl) ?_
  refine lw_c2 (as := [.int (xs (i + 1))]) (rest := [.int _]) hX hl.1 (am_dec td_law9 22 rfl) (am_mV.of mt_11_many (am_in8 19 rfl rfl)) rfl rfl (Nat.le_of_ble_eq_true rfl) (lw_i1 [(xs (i + 1))]) (om_many (d := 0) h2 _) (by decide) hf V1 (fun τ2 H2 locs2 g2 V2 => ?_)
  exact lv_icmp_eq hx hb (am_dec td_law9 23 rfl) rfl (fun _ => kk _ τ1 τ2 x H2 locs2 cells slots ls g1 g2 hs V2 hl (Nat.le_add_right _ _) (Nat.le_add_right _ _)) (fun h => absurd rfl h)
theorem lc_9 (hX : lw_X p s m meth c b L xs D K cL ρ1 ρ2) (hl : lw_L b ρ1 ρ2 w i ls) (h1 : ci σ1 s0) (h2 : ri σ2 s0) (hs : sX_ok s0) (hV : lw_V s D K cL ρ1 ρ2 w σ1 σ2 x H locs) (hi : i + 5 < L) (hf : cells ≤ 601024 ∧ slots ≤ 7293034) (kk : lw_K p l e s m below meth c b D K cL ρ1 ρ2 w i cells slots Ψ) : W p l e room_1 s m #[Value.ref b] below meth c H locs cells slots Ψ (F0 m 544 ls []) := by
  have hx := hX.1.1
  have hb := hX.1.2.1
  have hS := hV.2.2.2.2.2.2.2.2.2
  refine lv_aload_n hx hb (am_dec td_law9 26 rfl) rfl (lv_at hl 1 rfl) ?_
  refine lw_arg 1 hX hl hS rfl (by omega) (am_dec td_law9 27 rfl) (am_dec td_law9 28 rfl) (am_dec td_law9 29 rfl) (am_dec td_law10 0 rfl) (am_dec td_law10 1 rfl) ?_
  refine lw_arg 2 hX hl hS rfl (by omega) (am_dec td_law10 2 rfl) (am_dec td_law10 3 rfl) (am_dec td_law10 4 rfl) (am_dec td_law10 5 rfl) (am_dec td_law10 6 rfl) ?_
  refine lw_c1 (as := [.int (xs (i + 1)), .int (xs (i + 2))]) (rest := []) hX hl.1 (am_dec td_law10 7 rfl) (am_mV.of mt_10_ways (am_in4 120 rfl rfl)) rfl rfl (Nat.le_of_ble_eq_true rfl) (lw_i1 [(xs (i + 1)), (xs (i + 2))]) (oc_ways (d := 0) h1 _ _) (by decide) hf hV (fun τ1 H1 locs1 g1 V1 => ?_)
  have hS1 := V1.2.2.2.2.2.2.2.2.2
  refine lv_aload_n hx hb (am_dec td_law10 8 rfl) rfl (lv_at hl 2 rfl) ?_
  refine lw_arg 1 hX hl hS1 rfl (by omega) (am_dec td_law10 9 rfl) (am_dec td_law10 10 rfl) (am_dec td_law10 11 rfl) (am_dec td_law10 12 rfl) (am_dec td_law10 13 rfl) ?_
  refine lw_arg 2 hX hl hS1 rfl (by omega) (am_dec td_law10 14 rfl) (am_dec td_law10 15 rfl) (am_dec td_law10 16 rfl) (am_dec td_law10 17 rfl) (am_dec td_law10 18 rfl) ?_
  refine lw_c2 (as := [.int (xs (i + 1)), .int (xs (i + 2))]) (rest := [.int _]) hX hl.1 (am_dec td_law10 19 rfl) (am_mV.of mt_11_ways (am_in8 119 rfl rfl)) rfl rfl (Nat.le_of_ble_eq_true rfl) (lw_i1 [(xs (i + 1)), (xs (i + 2))]) (om_ways (d := 0) h2 _ _) (by decide) hf V1 (fun τ2 H2 locs2 g2 V2 => ?_)
  exact lv_icmp_eq hx hb (am_dec td_law10 20 rfl) rfl (fun _ => kk _ τ1 τ2 x H2 locs2 cells slots ls g1 g2 (lw_okw hs _ _) V2 hl (Nat.le_add_right _ _) (Nat.le_add_right _ _)) (fun h => absurd rfl h)
theorem lc_10 (hX : lw_X p s m meth c b L xs D K cL ρ1 ρ2) (hl : lw_L b ρ1 ρ2 w i ls) (h1 : ci σ1 s0) (h2 : ri σ2 s0) (hs : sX_ok s0) (hV : lw_V s D K cL ρ1 ρ2 w σ1 σ2 x H locs) (hi : i + 5 < L) (hf : cells ≤ 601024 ∧ slots ≤ 7293034) (kk : lw_K p l e s m below meth c b D K cL ρ1 ρ2 w i cells slots Ψ) : W p l e room_1 s m #[Value.ref b] below meth c H locs cells slots Ψ (F0 m 581 ls []) := by
  have hx := hX.1.1
  have hb := hX.1.2.1
  have hS := hV.2.2.2.2.2.2.2.2.2
  refine lv_aload_n hx hb (am_dec td_law10 23 rfl) rfl (lv_at hl 1 rfl) ?_
  refine lw_arg 1 hX hl hS rfl (by omega) (am_dec td_law10 24 rfl) (am_dec td_law10 25 rfl) (am_dec td_law10 26 rfl) (am_dec td_law10 27 rfl) (am_dec td_law10 28 rfl) ?_
  refine lw_c1 (as := [.int (xs (i + 1))]) (rest := []) hX hl.1 (am_dec td_law10 29 rfl) (am_mV.of mt_10_learn (am_in4 127 rfl rfl)) rfl rfl (Nat.le_of_ble_eq_true rfl) (lw_i1 [(xs (i + 1))]) (oc_learn (d := 0) h1 _) (by decide) hf hV (fun τ1 H1 locs1 g1 V1 => ?_)
  have hS1 := V1.2.2.2.2.2.2.2.2.2
  refine lv_aload_n hx hb (am_dec td_law11 0 rfl) rfl (lv_at hl 2 rfl) ?_
  refine lw_arg 1 hX hl hS1 rfl (by omega) (am_dec td_law11 1 rfl) (am_dec td_law11 2 rfl) (am_dec td_law11 3 rfl) (am_dec td_law11 4 rfl) (am_dec td_law11 5 rfl) ?_
  refine lw_c2 (as := [.int (xs (i + 1))]) (rest := [.int _]) hX hl.1 (am_dec td_law11 6 rfl) (am_mV.of mt_11_learn (am_in8 23 rfl rfl)) rfl rfl (Nat.le_of_ble_eq_true rfl) (lw_i1 [(xs (i + 1))]) (om_learn (d := 0) h2 _) (by decide) hf V1 (fun τ2 H2 locs2 g2 V2 => ?_)
  exact lv_icmp_eq hx hb (am_dec td_law11 7 rfl) rfl (fun _ => kk _ τ1 τ2 x H2 locs2 cells slots ls g1 g2 (ok_learn hs _) V2 hl (Nat.le_add_right _ _) (Nat.le_add_right _ _)) (fun h => absurd rfl h)
theorem lc_11 (hX : lw_X p s m meth c b L xs D K cL ρ1 ρ2) (hl : lw_L b ρ1 ρ2 w i ls) (h1 : ci σ1 s0) (h2 : ri σ2 s0) (hs : sX_ok s0) (hV : lw_V s D K cL ρ1 ρ2 w σ1 σ2 x H locs) (hi : i + 5 < L) (hf : cells ≤ 601024 ∧ slots ≤ 7293034) (kk : lw_K p l e s m below meth c b D K cL ρ1 ρ2 w i cells slots Ψ) : W p l e room_1 s m #[Value.ref b] below meth c H locs cells slots Ψ (F0 m 606 ls []) := by
  have hx := hX.1.1
  have hb := hX.1.2.1
  have hS := hV.2.2.2.2.2.2.2.2.2
  refine lv_aload_n hx hb (am_dec td_law11 10 rfl) rfl (lv_at hl 1 rfl) ?_
  refine lw_c1 (as := []) (rest := []) hX hl.1 (am_dec td_law11 11 rfl) (am_mV.of mt_10_ended (am_in4 237 rfl rfl)) rfl rfl (Nat.le_of_ble_eq_true rfl) (lw_i1 []) (oc_ended (d := 0) h1 ) (by decide) hf hV (fun τ1 H1 locs1 g1 V1 => ?_)
  have hS1 := V1.2.2.2.2.2.2.2.2.2
  refine lv_aload_n hx hb (am_dec td_law11 12 rfl) rfl (lv_at hl 2 rfl) ?_
  refine lw_c2 (as := []) (rest := [.int _]) hX hl.1 (am_dec td_law11 13 rfl) (am_mV.of mt_11_ended (am_in8 123 rfl rfl)) rfl rfl (Nat.le_of_ble_eq_true rfl) (lw_i1 []) (om_ended (d := 0) h2 ) (by decide) hf V1 (fun τ2 H2 locs2 g2 V2 => ?_)
  exact lv_icmp_eq hx hb (am_dec td_law11 14 rfl) rfl (fun _ => kk _ τ1 τ2 x H2 locs2 cells slots ls g1 g2 hs V2 hl (Nat.le_add_right _ _) (Nat.le_add_right _ _)) (fun h => absurd rfl h)
theorem lc_12 (hX : lw_X p s m meth c b L xs D K cL ρ1 ρ2) (hl : lw_L b ρ1 ρ2 w i ls) (h1 : ci σ1 s0) (h2 : ri σ2 s0) (hs : sX_ok s0) (hV : lw_V s D K cL ρ1 ρ2 w σ1 σ2 x H locs) (hi : i + 5 < L) (hf : cells ≤ 601024 ∧ slots ≤ 7293034) (kk : lw_K p l e s m below meth c b D K cL ρ1 ρ2 w i cells slots Ψ) : W p l e room_1 s m #[Value.ref b] below meth c H locs cells slots Ψ (F0 m 619 ls []) := by
  have hx := hX.1.1
  have hb := hX.1.2.1
  have hS := hV.2.2.2.2.2.2.2.2.2
  refine lv_aload_n hx hb (am_dec td_law11 17 rfl) rfl (lv_at hl 1 rfl) ?_
  refine lw_arg 1 hX hl hS rfl (by omega) (am_dec td_law11 18 rfl) (am_dec td_law11 19 rfl) (am_dec td_law11 20 rfl) (am_dec td_law11 21 rfl) (am_dec td_law11 22 rfl) ?_
  refine lw_c1 (as := [.int (xs (i + 1))]) (rest := []) hX hl.1 (am_dec td_law11 23 rfl) (am_mV.of mt_10_brought (am_in5 1 rfl rfl)) rfl rfl (Nat.le_of_ble_eq_true rfl) (lw_i1 [(xs (i + 1))]) (oc_brought (d := 0) h1 _) (by decide) hf hV (fun τ1 H1 locs1 g1 V1 => ?_)
  have hS1 := V1.2.2.2.2.2.2.2.2.2
  refine lv_aload_n hx hb (am_dec td_law11 24 rfl) rfl (lv_at hl 2 rfl) ?_
  refine lw_arg 1 hX hl hS1 rfl (by omega) (am_dec td_law11 25 rfl) (am_dec td_law11 26 rfl) (am_dec td_law11 27 rfl) (am_dec td_law11 28 rfl) (am_dec td_law11 29 rfl) ?_
  refine lw_c2 (as := [.int (xs (i + 1))]) (rest := [.int _]) hX hl.1 (am_dec td_law12 0 rfl) (am_mV.of mt_11_brought (am_in8 127 rfl rfl)) rfl rfl (Nat.le_of_ble_eq_true rfl) (lw_i1 [(xs (i + 1))]) (om_brought (d := 0) h2 _) (by decide) hf V1 (fun τ2 H2 locs2 g2 V2 => ?_)
  exact lv_icmp_eq hx hb (am_dec td_law12 1 rfl) rfl (fun _ => kk _ τ1 τ2 x H2 locs2 cells slots ls g1 g2 hs V2 hl (Nat.le_add_right _ _) (Nat.le_add_right _ _)) (fun h => absurd rfl h)
theorem lc_13 (hX : lw_X p s m meth c b L xs D K cL ρ1 ρ2) (hl : lw_L b ρ1 ρ2 w i ls) (h1 : ci σ1 s0) (h2 : ri σ2 s0) (hs : sX_ok s0) (hV : lw_V s D K cL ρ1 ρ2 w σ1 σ2 x H locs) (hi : i + 5 < L) (hf : cells ≤ 601024 ∧ slots ≤ 7293034) (kk : lw_K p l e s m below meth c b D K cL ρ1 ρ2 w i cells slots Ψ) : W p l e room_1 s m #[Value.ref b] below meth c H locs cells slots Ψ (F0 m 644 ls []) := by
  have hx := hX.1.1
  have hb := hX.1.2.1
  have hS := hV.2.2.2.2.2.2.2.2.2
  refine lv_aload_n hx hb (am_dec td_law12 4 rfl) rfl (lv_at hl 1 rfl) ?_
  refine lw_arg 1 hX hl hS rfl (by omega) (am_dec td_law12 5 rfl) (am_dec td_law12 6 rfl) (am_dec td_law12 7 rfl) (am_dec td_law12 8 rfl) (am_dec td_law12 9 rfl) ?_
  refine lw_arg 2 hX hl hS rfl (by omega) (am_dec td_law12 10 rfl) (am_dec td_law12 11 rfl) (am_dec td_law12 12 rfl) (am_dec td_law12 13 rfl) (am_dec td_law12 14 rfl) ?_
  refine lw_c1 (as := [.int (xs (i + 1)), .int (xs (i + 2))]) (rest := []) hX hl.1 (am_dec td_law12 15 rfl) (am_mV.of mt_10_point (am_in5 5 rfl rfl)) rfl rfl (Nat.le_of_ble_eq_true rfl) (lw_i1 [(xs (i + 1)), (xs (i + 2))]) (oc_point (d := 0) h1 _ _) (by decide) hf hV (fun τ1 H1 locs1 g1 V1 => ?_)
  have hS1 := V1.2.2.2.2.2.2.2.2.2
  refine lv_aload_n hx hb (am_dec td_law12 16 rfl) rfl (lv_at hl 2 rfl) ?_
  refine lw_arg 1 hX hl hS1 rfl (by omega) (am_dec td_law12 17 rfl) (am_dec td_law12 18 rfl) (am_dec td_law12 19 rfl) (am_dec td_law12 20 rfl) (am_dec td_law12 21 rfl) ?_
  refine lw_arg 2 hX hl hS1 rfl (by omega) (am_dec td_law12 22 rfl) (am_dec td_law12 23 rfl) (am_dec td_law12 24 rfl) (am_dec td_law12 25 rfl) (am_dec td_law12 26 rfl) ?_
  refine lw_c2 (as := [.int (xs (i + 1)), .int (xs (i + 2))]) (rest := [.int _]) hX hl.1 (am_dec td_law12 27 rfl) (am_mV.of mt_11_point (am_in8 131 rfl rfl)) rfl rfl (Nat.le_of_ble_eq_true rfl) (lw_i1 [(xs (i + 1)), (xs (i + 2))]) (om_point (d := 0) h2 _ _) (by decide) hf V1 (fun τ2 H2 locs2 g2 V2 => ?_)
  exact lv_icmp_eq hx hb (am_dec td_law12 28 rfl) rfl (fun _ => kk _ τ1 τ2 x H2 locs2 cells slots ls g1 g2 hs V2 hl (Nat.le_add_right _ _) (Nat.le_add_right _ _)) (fun h => absurd rfl h)
theorem lc_14 (hX : lw_X p s m meth c b L xs D K cL ρ1 ρ2) (hl : lw_L b ρ1 ρ2 w i ls) (h1 : ci σ1 s0) (h2 : ri σ2 s0) (hs : sX_ok s0) (hV : lw_V s D K cL ρ1 ρ2 w σ1 σ2 x H locs) (hi : i + 5 < L) (hf : cells ≤ 601024 ∧ slots ≤ 7293034) (kk : lw_K p l e s m below meth c b D K cL ρ1 ρ2 w i cells slots Ψ) : W p l e room_1 s m #[Value.ref b] below meth c H locs cells slots Ψ (F0 m 681 ls []) := by
  have hx := hX.1.1
  have hb := hX.1.2.1
  have hS := hV.2.2.2.2.2.2.2.2.2
  refine lv_aload_n hx hb (am_dec td_law13 1 rfl) rfl (lv_at hl 1 rfl) ?_
  refine lw_arg 1 hX hl hS rfl (by omega) (am_dec td_law13 2 rfl) (am_dec td_law13 3 rfl) (am_dec td_law13 4 rfl) (am_dec td_law13 5 rfl) (am_dec td_law13 6 rfl) ?_
  refine lw_arg 2 hX hl hS rfl (by omega) (am_dec td_law13 7 rfl) (am_dec td_law13 8 rfl) (am_dec td_law13 9 rfl) (am_dec td_law13 10 rfl) (am_dec td_law13 11 rfl) ?_
  refine lw_c1 (as := [.int (xs (i + 1)), .int (xs (i + 2))]) (rest := []) hX hl.1 (am_dec td_law13 12 rfl) (am_mV.of mt_10_pair (am_in5 21 rfl rfl)) rfl rfl (Nat.le_of_ble_eq_true rfl) (lw_i1 [(xs (i + 1)), (xs (i + 2))]) (oc_pair (d := 0) h1 _ _) (by decide) hf hV (fun τ1 H1 locs1 g1 V1 => ?_)
  have hS1 := V1.2.2.2.2.2.2.2.2.2
  refine lv_aload_n hx hb (am_dec td_law13 13 rfl) rfl (lv_at hl 2 rfl) ?_
  refine lw_arg 1 hX hl hS1 rfl (by omega) (am_dec td_law13 14 rfl) (am_dec td_law13 15 rfl) (am_dec td_law13 16 rfl) (am_dec td_law13 17 rfl) (am_dec td_law13 18 rfl) ?_
  refine lw_arg 2 hX hl hS1 rfl (by omega) (am_dec td_law13 19 rfl) (am_dec td_law13 20 rfl) (am_dec td_law13 21 rfl) (am_dec td_law13 22 rfl) (am_dec td_law13 23 rfl) ?_
  refine lw_c2 (as := [.int (xs (i + 1)), .int (xs (i + 2))]) (rest := [.int _]) hX hl.1 (am_dec td_law13 24 rfl) (am_mV.of mt_11_pair (am_in8 139 rfl rfl)) rfl rfl (Nat.le_of_ble_eq_true rfl) (lw_i1 [(xs (i + 1)), (xs (i + 2))]) (om_pair (d := 0) h2 _ _) (by decide) hf V1 (fun τ2 H2 locs2 g2 V2 => ?_)
  exact lv_icmp_eq hx hb (am_dec td_law13 25 rfl) rfl (fun _ => kk _ τ1 τ2 x H2 locs2 cells slots ls g1 g2 hs V2 hl (Nat.le_add_right _ _) (Nat.le_add_right _ _)) (fun h => absurd rfl h)
theorem lc_15 (hX : lw_X p s m meth c b L xs D K cL ρ1 ρ2) (hl : lw_L b ρ1 ρ2 w i ls) (h1 : ci σ1 s0) (h2 : ri σ2 s0) (hs : sX_ok s0) (hV : lw_V s D K cL ρ1 ρ2 w σ1 σ2 x H locs) (hi : i + 5 < L) (hf : cells ≤ 601024 ∧ slots ≤ 7293034) (kk : lw_K p l e s m below meth c b D K cL ρ1 ρ2 w i cells slots Ψ) : W p l e room_1 s m #[Value.ref b] below meth c H locs cells slots Ψ (F0 m 718 ls []) := by
  have hx := hX.1.1
  have hb := hX.1.2.1
  have hS := hV.2.2.2.2.2.2.2.2.2
  refine lv_aload_n hx hb (am_dec td_law13 28 rfl) rfl (lv_at hl 1 rfl) ?_
  refine lw_arg 1 hX hl hS rfl (by omega) (am_dec td_law13 29 rfl) (am_dec td_law14 0 rfl) (am_dec td_law14 1 rfl) (am_dec td_law14 2 rfl) (am_dec td_law14 3 rfl) ?_
  refine lw_arg 2 hX hl hS rfl (by omega) (am_dec td_law14 4 rfl) (am_dec td_law14 5 rfl) (am_dec td_law14 6 rfl) (am_dec td_law14 7 rfl) (am_dec td_law14 8 rfl) ?_
  refine lw_c1 (as := [.int (xs (i + 1)), .int (xs (i + 2))]) (rest := []) hX hl.1 (am_dec td_law14 9 rfl) (am_mV.of mt_10_node (am_in5 25 rfl rfl)) rfl rfl (Nat.le_of_ble_eq_true rfl) (lw_i1 [(xs (i + 1)), (xs (i + 2))]) (oc_node (d := 0) h1 _ _) (by decide) hf hV (fun τ1 H1 locs1 g1 V1 => ?_)
  have hS1 := V1.2.2.2.2.2.2.2.2.2
  refine lv_aload_n hx hb (am_dec td_law14 10 rfl) rfl (lv_at hl 2 rfl) ?_
  refine lw_arg 1 hX hl hS1 rfl (by omega) (am_dec td_law14 11 rfl) (am_dec td_law14 12 rfl) (am_dec td_law14 13 rfl) (am_dec td_law14 14 rfl) (am_dec td_law14 15 rfl) ?_
  refine lw_arg 2 hX hl hS1 rfl (by omega) (am_dec td_law14 16 rfl) (am_dec td_law14 17 rfl) (am_dec td_law14 18 rfl) (am_dec td_law14 19 rfl) (am_dec td_law14 20 rfl) ?_
  refine lw_c2 (as := [.int (xs (i + 1)), .int (xs (i + 2))]) (rest := [.int _]) hX hl.1 (am_dec td_law14 21 rfl) (am_mV.of mt_11_node (am_in8 143 rfl rfl)) rfl rfl (Nat.le_of_ble_eq_true rfl) (lw_i1 [(xs (i + 1)), (xs (i + 2))]) (om_node (d := 0) h2 _ _) (by decide) hf V1 (fun τ2 H2 locs2 g2 V2 => ?_)
  exact lv_icmp_eq hx hb (am_dec td_law14 22 rfl) rfl (fun _ => kk _ τ1 τ2 x H2 locs2 cells slots ls g1 g2 hs V2 hl (Nat.le_add_right _ _) (Nat.le_add_right _ _)) (fun h => absurd rfl h)
theorem lc_16 (hX : lw_X p s m meth c b L xs D K cL ρ1 ρ2) (hl : lw_L b ρ1 ρ2 w i ls) (h1 : ci σ1 s0) (h2 : ri σ2 s0) (hs : sX_ok s0) (hV : lw_V s D K cL ρ1 ρ2 w σ1 σ2 x H locs) (hi : i + 5 < L) (hf : cells ≤ 601024 ∧ slots ≤ 7293034) (kk : lw_K p l e s m below meth c b D K cL ρ1 ρ2 w i cells slots Ψ) : W p l e room_1 s m #[Value.ref b] below meth c H locs cells slots Ψ (F0 m 755 ls []) := by
  have hx := hX.1.1
  have hb := hX.1.2.1
  have hS := hV.2.2.2.2.2.2.2.2.2
  refine lv_aload_n hx hb (am_dec td_law14 25 rfl) rfl (lv_at hl 1 rfl) ?_
  refine lw_arg 1 hX hl hS rfl (by omega) (am_dec td_law14 26 rfl) (am_dec td_law14 27 rfl) (am_dec td_law14 28 rfl) (am_dec td_law14 29 rfl) (am_dec td_law15 0 rfl) ?_
  refine lw_c1 (as := [.int (xs (i + 1))]) (rest := []) hX hl.1 (am_dec td_law15 1 rfl) (am_mV.of mt_10_cost (am_in5 37 rfl rfl)) rfl rfl (Nat.le_of_ble_eq_true rfl) (lw_i1 [(xs (i + 1))]) (oc_cost (d := 0) h1 _) (by decide) hf hV (fun τ1 H1 locs1 g1 V1 => ?_)
  have hS1 := V1.2.2.2.2.2.2.2.2.2
  refine lv_aload_n hx hb (am_dec td_law15 2 rfl) rfl (lv_at hl 2 rfl) ?_
  refine lw_arg 1 hX hl hS1 rfl (by omega) (am_dec td_law15 3 rfl) (am_dec td_law15 4 rfl) (am_dec td_law15 5 rfl) (am_dec td_law15 6 rfl) (am_dec td_law15 7 rfl) ?_
  refine lw_c2 (as := [.int (xs (i + 1))]) (rest := [.int _]) hX hl.1 (am_dec td_law15 8 rfl) (am_mV.of mt_11_cost (am_in8 151 rfl rfl)) rfl rfl (Nat.le_of_ble_eq_true rfl) (lw_i1 [(xs (i + 1))]) (om_cost (d := 0) h2 _) (by decide) hf V1 (fun τ2 H2 locs2 g2 V2 => ?_)
  exact lv_icmp_eq hx hb (am_dec td_law15 9 rfl) rfl (fun _ => kk _ τ1 τ2 x H2 locs2 cells slots ls g1 g2 hs V2 hl (Nat.le_add_right _ _) (Nat.le_add_right _ _)) (fun h => absurd rfl h)
theorem lc_17 (hX : lw_X p s m meth c b L xs D K cL ρ1 ρ2) (hl : lw_L b ρ1 ρ2 w i ls) (h1 : ci σ1 s0) (h2 : ri σ2 s0) (hs : sX_ok s0) (hV : lw_V s D K cL ρ1 ρ2 w σ1 σ2 x H locs) (hi : i + 5 < L) (hf : cells ≤ 601024 ∧ slots ≤ 7293034) (kk : lw_K p l e s m below meth c b D K cL ρ1 ρ2 w i cells slots Ψ) : W p l e room_1 s m #[Value.ref b] below meth c H locs cells slots Ψ (F0 m 780 ls []) := by
  have hx := hX.1.1
  have hb := hX.1.2.1
  have hS := hV.2.2.2.2.2.2.2.2.2
  refine lv_aload_n hx hb (am_dec td_law15 12 rfl) rfl (lv_at hl 1 rfl) ?_
  refine lw_arg 1 hX hl hS rfl (by omega) (am_dec td_law15 13 rfl) (am_dec td_law15 14 rfl) (am_dec td_law15 15 rfl) (am_dec td_law15 16 rfl) (am_dec td_law15 17 rfl) ?_
  refine lw_arg 2 hX hl hS rfl (by omega) (am_dec td_law15 18 rfl) (am_dec td_law15 19 rfl) (am_dec td_law15 20 rfl) (am_dec td_law15 21 rfl) (am_dec td_law15 22 rfl) ?_
  refine lw_c1 (as := [.int (xs (i + 1)), .int (xs (i + 2))]) (rest := []) hX hl.1 (am_dec td_law15 23 rfl) (am_mV.of mt_10_run (am_in5 45 rfl rfl)) rfl rfl (Nat.le_of_ble_eq_true rfl) (lw_i1 [(xs (i + 1)), (xs (i + 2))]) (oc_run (d := 0) h1 _ _) (by decide) hf hV (fun τ1 H1 locs1 g1 V1 => ?_)
  have hS1 := V1.2.2.2.2.2.2.2.2.2
  refine lv_aload_n hx hb (am_dec td_law15 24 rfl) rfl (lv_at hl 2 rfl) ?_
  refine lw_arg 1 hX hl hS1 rfl (by omega) (am_dec td_law15 25 rfl) (am_dec td_law15 26 rfl) (am_dec td_law15 27 rfl) (am_dec td_law15 28 rfl) (am_dec td_law15 29 rfl) ?_
  refine lw_arg 2 hX hl hS1 rfl (by omega) (am_dec td_law16 0 rfl) (am_dec td_law16 1 rfl) (am_dec td_law16 2 rfl) (am_dec td_law16 3 rfl) (am_dec td_law16 4 rfl) ?_
  refine lw_c2 (as := [.int (xs (i + 1)), .int (xs (i + 2))]) (rest := [.int _]) hX hl.1 (am_dec td_law16 5 rfl) (am_mV.of mt_11_run (am_in8 155 rfl rfl)) rfl rfl (Nat.le_of_ble_eq_true rfl) (lw_i1 [(xs (i + 1)), (xs (i + 2))]) (om_run (d := 0) h2 _ _) (by decide) hf V1 (fun τ2 H2 locs2 g2 V2 => ?_)
  exact lv_icmp_eq hx hb (am_dec td_law16 6 rfl) rfl (fun _ => kk _ τ1 τ2 x H2 locs2 cells slots ls g1 g2 (ok_run hs _ _) V2 hl (Nat.le_add_right _ _) (Nat.le_add_right _ _)) (fun h => absurd rfl h)
theorem lc_18 (hX : lw_X p s m meth c b L xs D K cL ρ1 ρ2) (hl : lw_L b ρ1 ρ2 w i ls) (h1 : ci σ1 s0) (h2 : ri σ2 s0) (hs : sX_ok s0) (hV : lw_V s D K cL ρ1 ρ2 w σ1 σ2 x H locs) (hi : i + 5 < L) (hf : cells ≤ 601024 ∧ slots ≤ 7293034) (kk : lw_K p l e s m below meth c b D K cL ρ1 ρ2 w i cells slots Ψ) : W p l e room_1 s m #[Value.ref b] below meth c H locs cells slots Ψ (F0 m 817 ls []) := by
  have hx := hX.1.1
  have hb := hX.1.2.1
  have hS := hV.2.2.2.2.2.2.2.2.2
  refine lv_aload_n hx hb (am_dec td_law16 9 rfl) rfl (lv_at hl 1 rfl) ?_
  refine lw_arg 1 hX hl hS rfl (by omega) (am_dec td_law16 10 rfl) (am_dec td_law16 11 rfl) (am_dec td_law16 12 rfl) (am_dec td_law16 13 rfl) (am_dec td_law16 14 rfl) ?_
  refine lw_c1 (as := [.int (xs (i + 1))]) (rest := []) hX hl.1 (am_dec td_law16 15 rfl) (am_mV.of mt_10_trace (am_in5 70 rfl rfl)) rfl rfl (Nat.le_of_ble_eq_true rfl) (lw_i1 [(xs (i + 1))]) (oc_trace (d := 0) h1 _) (by decide) hf hV (fun τ1 H1 locs1 g1 V1 => ?_)
  have hS1 := V1.2.2.2.2.2.2.2.2.2
  refine lv_aload_n hx hb (am_dec td_law16 16 rfl) rfl (lv_at hl 2 rfl) ?_
  refine lw_arg 1 hX hl hS1 rfl (by omega) (am_dec td_law16 17 rfl) (am_dec td_law16 18 rfl) (am_dec td_law16 19 rfl) (am_dec td_law16 20 rfl) (am_dec td_law16 21 rfl) ?_
  refine lw_c2 (as := [.int (xs (i + 1))]) (rest := [.int _]) hX hl.1 (am_dec td_law16 22 rfl) (am_mV.of mt_11_trace (am_in8 180 rfl rfl)) rfl rfl (Nat.le_of_ble_eq_true rfl) (lw_i1 [(xs (i + 1))]) (om_trace (d := 0) h2 hs _) (by decide) hf V1 (fun τ2 H2 locs2 g2 V2 => ?_)
  exact lv_icmp_eq hx hb (am_dec td_law16 23 rfl) rfl (fun _ => kk _ τ1 τ2 x H2 locs2 cells slots ls g1 g2 hs V2 hl (Nat.le_add_right _ _) (Nat.le_add_right _ _)) (fun h => absurd rfl h)
theorem lc_19 (hX : lw_X p s m meth c b L xs D K cL ρ1 ρ2) (hl : lw_L b ρ1 ρ2 w i ls) (h1 : ci σ1 s0) (h2 : ri σ2 s0) (hs : sX_ok s0) (hV : lw_V s D K cL ρ1 ρ2 w σ1 σ2 x H locs) (hi : i + 5 < L) (hf : cells ≤ 601024 ∧ slots ≤ 7293034) (kk : lw_K p l e s m below meth c b D K cL ρ1 ρ2 w i cells slots Ψ) : W p l e room_1 s m #[Value.ref b] below meth c H locs cells slots Ψ (F0 m 842 ls []) := by
  have hx := hX.1.1
  have hb := hX.1.2.1
  have hS := hV.2.2.2.2.2.2.2.2.2
  refine lv_aload_n hx hb (am_dec td_law16 26 rfl) rfl (lv_at hl 1 rfl) ?_
  refine lw_arg 1 hX hl hS rfl (by omega) (am_dec td_law16 27 rfl) (am_dec td_law16 28 rfl) (am_dec td_law16 29 rfl) (am_dec td_law17 0 rfl) (am_dec td_law17 1 rfl) ?_
  refine lw_argB 2 hX hl hS rfl (by omega) (am_dec td_law17 2 rfl) (am_dec td_law17 3 rfl) (am_dec td_law17 4 rfl) (am_dec td_law17 5 rfl) (am_dec td_law17 6 rfl) (am_dec td_law17 7 rfl) (am_dec td_law17 8 rfl) (am_dec td_law17 9 rfl) (am_dec td_law17 10 rfl) rfl rfl ?_
  refine lw_c1 (as := [.int (xs (i + 1)), .int (am_bI (lw_ne (xs (i + 2))))]) (rest := []) hX hl.1 (am_dec td_law17 11 rfl) (am_mV.of mt_10_rows (am_in5 90 rfl rfl)) rfl rfl (Nat.le_of_ble_eq_true rfl) (lw_i1 [(xs (i + 1)), (am_bI (lw_ne (xs (i + 2))))]) (oc_rows (d := 0) h1 hs _ _) (by decide) hf hV (fun τ1 H1 locs1 g1 V1 => ?_)
  have hS1 := V1.2.2.2.2.2.2.2.2.2
  refine lv_aload_n hx hb (am_dec td_law17 12 rfl) rfl (lv_at hl 2 rfl) ?_
  refine lw_arg 1 hX hl hS1 rfl (by omega) (am_dec td_law17 13 rfl) (am_dec td_law17 14 rfl) (am_dec td_law17 15 rfl) (am_dec td_law17 16 rfl) (am_dec td_law17 17 rfl) ?_
  refine lw_argB 2 hX hl hS1 rfl (by omega) (am_dec td_law17 18 rfl) (am_dec td_law17 19 rfl) (am_dec td_law17 20 rfl) (am_dec td_law17 21 rfl) (am_dec td_law17 22 rfl) (am_dec td_law17 23 rfl) (am_dec td_law17 24 rfl) (am_dec td_law17 25 rfl) (am_dec td_law17 26 rfl) rfl rfl ?_
  refine lw_c2 (as := [.int (xs (i + 1)), .int (am_bI (lw_ne (xs (i + 2))))]) (rest := [.int _]) hX hl.1 (am_dec td_law17 27 rfl) (am_mV.of mt_11_rows (am_in8 192 rfl rfl)) rfl rfl (Nat.le_of_ble_eq_true rfl) (lw_i1 [(xs (i + 1)), (am_bI (lw_ne (xs (i + 2))))]) (om_rows (d := 0) h2 hs _ _) (by decide) hf V1 (fun τ2 H2 locs2 g2 V2 => ?_)
  exact lv_icmp_eq hx hb (am_dec td_law17 28 rfl) rfl (fun _ => kk _ τ1 τ2 x H2 locs2 cells slots ls g1 g2 hs V2 hl (Nat.le_add_right _ _) (Nat.le_add_right _ _)) (fun h => absurd rfl h)
theorem lc_20 (hX : lw_X p s m meth c b L xs D K cL ρ1 ρ2) (hl : lw_L b ρ1 ρ2 w i ls) (h1 : ci σ1 s0) (h2 : ri σ2 s0) (hs : sX_ok s0) (hV : lw_V s D K cL ρ1 ρ2 w σ1 σ2 x H locs) (hi : i + 5 < L) (hf : cells ≤ 601024 ∧ slots ≤ 7293034) (kk : lw_K p l e s m below meth c b D K cL ρ1 ρ2 w i cells slots Ψ) : W p l e room_1 s m #[Value.ref b] below meth c H locs cells slots Ψ (F0 m 895 ls []) := by
  have hx := hX.1.1
  have hb := hX.1.2.1
  have hS := hV.2.2.2.2.2.2.2.2.2
  refine lv_aload_n hx hb (am_dec td_law18 1 rfl) rfl (lv_at hl 1 rfl) ?_
  refine lw_arg 1 hX hl hS rfl (by omega) (am_dec td_law18 2 rfl) (am_dec td_law18 3 rfl) (am_dec td_law18 4 rfl) (am_dec td_law18 5 rfl) (am_dec td_law18 6 rfl) ?_
  refine lw_arg 2 hX hl hS rfl (by omega) (am_dec td_law18 7 rfl) (am_dec td_law18 8 rfl) (am_dec td_law18 9 rfl) (am_dec td_law18 10 rfl) (am_dec td_law18 11 rfl) ?_
  refine lw_argB 3 hX hl hS rfl (by omega) (am_dec td_law18 12 rfl) (am_dec td_law18 13 rfl) (am_dec td_law18 14 rfl) (am_dec td_law18 15 rfl) (am_dec td_law18 16 rfl) (am_dec td_law18 17 rfl) (am_dec td_law18 18 rfl) (am_dec td_law18 19 rfl) (am_dec td_law18 20 rfl) rfl rfl ?_
  refine lw_c1 (as := [.int (xs (i + 1)), .int (xs (i + 2)), .int (am_bI (lw_ne (xs (i + 3))))]) (rest := []) hX hl.1 (am_dec td_law18 21 rfl) (am_mV.of mt_10_row (am_in5 151 rfl rfl)) rfl rfl (Nat.le_of_ble_eq_true rfl) (lw_i1 [(xs (i + 1)), (xs (i + 2)), (am_bI (lw_ne (xs (i + 3))))]) (oc_row (d := 0) h1 hs _ _ _) (by decide) hf hV (fun τ1 H1 locs1 g1 V1 => ?_)
  have hS1 := V1.2.2.2.2.2.2.2.2.2
  refine lv_aload_n hx hb (am_dec td_law18 22 rfl) rfl (lv_at hl 2 rfl) ?_
  refine lw_arg 1 hX hl hS1 rfl (by omega) (am_dec td_law18 23 rfl) (am_dec td_law18 24 rfl) (am_dec td_law18 25 rfl) (am_dec td_law18 26 rfl) (am_dec td_law18 27 rfl) ?_
  refine lw_arg 2 hX hl hS1 rfl (by omega) (am_dec td_law18 28 rfl) (am_dec td_law18 29 rfl) (am_dec td_law19 0 rfl) (am_dec td_law19 1 rfl) (am_dec td_law19 2 rfl) ?_
  refine lw_argB 3 hX hl hS1 rfl (by omega) (am_dec td_law19 3 rfl) (am_dec td_law19 4 rfl) (am_dec td_law19 5 rfl) (am_dec td_law19 6 rfl) (am_dec td_law19 7 rfl) (am_dec td_law19 8 rfl) (am_dec td_law19 9 rfl) (am_dec td_law19 10 rfl) (am_dec td_law19 11 rfl) rfl rfl ?_
  refine lw_c2 (as := [.int (xs (i + 1)), .int (xs (i + 2)), .int (am_bI (lw_ne (xs (i + 3))))]) (rest := [.int _]) hX hl.1 (am_dec td_law19 12 rfl) (am_mV.of mt_11_row (am_in8 232 rfl rfl)) rfl rfl (Nat.le_of_ble_eq_true rfl) (lw_i1 [(xs (i + 1)), (xs (i + 2)), (am_bI (lw_ne (xs (i + 3))))]) (om_row (d := 0) h2 hs _ _ _) (by decide) hf V1 (fun τ2 H2 locs2 g2 V2 => ?_)
  exact lv_icmp_eq hx hb (am_dec td_law19 13 rfl) rfl (fun _ => kk _ τ1 τ2 x H2 locs2 cells slots ls g1 g2 hs V2 hl (Nat.le_add_right _ _) (Nat.le_add_right _ _)) (fun h => absurd rfl h)
theorem lc_21 (hX : lw_X p s m meth c b L xs D K cL ρ1 ρ2) (hl : lw_L b ρ1 ρ2 w i ls) (h1 : ci σ1 s0) (h2 : ri σ2 s0) (hs : sX_ok s0) (hV : lw_V s D K cL ρ1 ρ2 w σ1 σ2 x H locs) (hi : i + 5 < L) (hf : cells ≤ 601024 ∧ slots ≤ 7293034) (kk : lw_K p l e s m below meth c b D K cL ρ1 ρ2 w i cells slots Ψ) : W p l e room_1 s m #[Value.ref b] below meth c H locs cells slots Ψ (F0 m 960 ls []) := by
  have hx := hX.1.1
  have hb := hX.1.2.1
  have hS := hV.2.2.2.2.2.2.2.2.2
  refine lv_aload_n hx hb (am_dec td_law19 16 rfl) rfl (lv_at hl 1 rfl) ?_
  refine lw_c1 (as := []) (rest := []) hX hl.1 (am_dec td_law19 17 rfl) (am_mV.of mt_10_shortMany (am_in5 164 rfl rfl)) rfl rfl (Nat.le_of_ble_eq_true rfl) (lw_i1 []) (oc_shortMany (d := 0) h1 hs ) (by decide) hf hV (fun τ1 H1 locs1 g1 V1 => ?_)
  have hS1 := V1.2.2.2.2.2.2.2.2.2
  refine lv_aload_n hx hb (am_dec td_law19 18 rfl) rfl (lv_at hl 2 rfl) ?_
  refine lw_c2 (as := []) (rest := [.int _]) hX hl.1 (am_dec td_law19 19 rfl) (am_mV.of mt_11_shortMany (am_in8 236 rfl rfl)) rfl rfl (Nat.le_of_ble_eq_true rfl) (lw_i1 []) (om_shortMany (d := 0) h2 hs ) (by decide) hf V1 (fun τ2 H2 locs2 g2 V2 => ?_)
  exact lv_icmp_eq hx hb (am_dec td_law19 20 rfl) rfl (fun _ => kk _ τ1 τ2 x H2 locs2 cells slots ls g1 g2 hs V2 hl (Nat.le_add_right _ _) (Nat.le_add_right _ _)) (fun h => absurd rfl h)
theorem lc_22 (hX : lw_X p s m meth c b L xs D K cL ρ1 ρ2) (hl : lw_L b ρ1 ρ2 w i ls) (h1 : ci σ1 s0) (h2 : ri σ2 s0) (hs : sX_ok s0) (hV : lw_V s D K cL ρ1 ρ2 w σ1 σ2 x H locs) (hi : i + 5 < L) (hf : cells ≤ 601024 ∧ slots ≤ 7293034) (kk : lw_K p l e s m below meth c b D K cL ρ1 ρ2 w i cells slots Ψ) : W p l e room_1 s m #[Value.ref b] below meth c H locs cells slots Ψ (F0 m 973 ls []) := by
  have hx := hX.1.1
  have hb := hX.1.2.1
  have hS := hV.2.2.2.2.2.2.2.2.2
  refine lv_aload_n hx hb (am_dec td_law19 23 rfl) rfl (lv_at hl 1 rfl) ?_
  refine lw_arg 1 hX hl hS rfl (by omega) (am_dec td_law19 24 rfl) (am_dec td_law19 25 rfl) (am_dec td_law19 26 rfl) (am_dec td_law19 27 rfl) (am_dec td_law19 28 rfl) ?_
  refine lw_c1 (as := [.int (xs (i + 1))]) (rest := []) hX hl.1 (am_dec td_law19 29 rfl) (am_mV.of mt_10_together (am_in5 172 rfl rfl)) rfl rfl (Nat.le_of_ble_eq_true rfl) (lw_i1 [(xs (i + 1))]) (oc_together (d := 0) h1 _) (by decide) hf hV (fun τ1 H1 locs1 g1 V1 => ?_)
  have hS1 := V1.2.2.2.2.2.2.2.2.2
  refine lv_aload_n hx hb (am_dec td_law20 0 rfl) rfl (lv_at hl 2 rfl) ?_
  refine lw_arg 1 hX hl hS1 rfl (by omega) (am_dec td_law20 1 rfl) (am_dec td_law20 2 rfl) (am_dec td_law20 3 rfl) (am_dec td_law20 4 rfl) (am_dec td_law20 5 rfl) ?_
  refine lw_c2 (as := [.int (xs (i + 1))]) (rest := [.int _]) hX hl.1 (am_dec td_law20 6 rfl) (am_mV.of mt_11_together (am_in9 0 rfl rfl)) rfl rfl (Nat.le_of_ble_eq_true rfl) (lw_i1 [(xs (i + 1))]) (om_together (d := 0) h2 _) (by decide) hf V1 (fun τ2 H2 locs2 g2 V2 => ?_)
  exact lv_icmp_eq hx hb (am_dec td_law20 7 rfl) rfl (fun _ => kk _ τ1 τ2 x H2 locs2 cells slots ls g1 g2 hs V2 hl (Nat.le_add_right _ _) (Nat.le_add_right _ _)) (fun h => absurd rfl h)
theorem lc_23 (hX : lw_X p s m meth c b L xs D K cL ρ1 ρ2) (hl : lw_L b ρ1 ρ2 w i ls) (h1 : ci σ1 s0) (h2 : ri σ2 s0) (hs : sX_ok s0) (hV : lw_V s D K cL ρ1 ρ2 w σ1 σ2 x H locs) (hi : i + 5 < L) (hf : cells ≤ 601024 ∧ slots ≤ 7293034) (kk : lw_K p l e s m below meth c b D K cL ρ1 ρ2 w i cells slots Ψ) : W p l e room_1 s m #[Value.ref b] below meth c H locs cells slots Ψ (F0 m 998 ls []) := by
  have hx := hX.1.1
  have hb := hX.1.2.1
  have hS := hV.2.2.2.2.2.2.2.2.2
  refine lv_aload_n hx hb (am_dec td_law20 10 rfl) rfl (lv_at hl 1 rfl) ?_
  refine lw_c1 (as := []) (rest := []) hX hl.1 (am_dec td_law20 11 rfl) (am_mV.of mt_10_togetherProves (am_in5 193 rfl rfl)) rfl rfl (Nat.le_of_ble_eq_true rfl) (lw_i1 []) (oc_togetherProves (d := 0) h1 ) (by decide) hf hV (fun τ1 H1 locs1 g1 V1 => ?_)
  have hS1 := V1.2.2.2.2.2.2.2.2.2
  refine lv_aload_n hx hb (am_dec td_law20 12 rfl) rfl (lv_at hl 2 rfl) ?_
  refine lw_c2 (as := []) (rest := [.int _]) hX hl.1 (am_dec td_law20 13 rfl) (am_mV.of mt_11_togetherProves (am_in9 12 rfl rfl)) rfl rfl (Nat.le_of_ble_eq_true rfl) (lw_i1 []) (om_togetherProves (d := 0) h2 ) (by decide) hf V1 (fun τ2 H2 locs2 g2 V2 => ?_)
  exact lv_icmp_eq hx hb (am_dec td_law20 14 rfl) rfl (fun _ => kk _ τ1 τ2 x H2 locs2 cells slots ls g1 g2 hs V2 hl (Nat.le_add_right _ _) (Nat.le_add_right _ _)) (fun h => absurd rfl h)
theorem lc_24 (hX : lw_X p s m meth c b L xs D K cL ρ1 ρ2) (hl : lw_L b ρ1 ρ2 w i ls) (h1 : ci σ1 s0) (h2 : ri σ2 s0) (hs : sX_ok s0) (hV : lw_V s D K cL ρ1 ρ2 w σ1 σ2 x H locs) (hi : i + 5 < L) (hf : cells ≤ 601024 ∧ slots ≤ 7293034) (kk : lw_K p l e s m below meth c b D K cL ρ1 ρ2 w i cells slots Ψ) : W p l e room_1 s m #[Value.ref b] below meth c H locs cells slots Ψ (F0 m 1011 ls []) := by
  have hx := hX.1.1
  have hb := hX.1.2.1
  have hS := hV.2.2.2.2.2.2.2.2.2
  refine lv_aload_n hx hb (am_dec td_law20 17 rfl) rfl (lv_at hl 1 rfl) ?_
  refine lw_c1 (as := []) (rest := []) hX hl.1 (am_dec td_law20 18 rfl) (am_mV.of mt_10_bySteps (am_in5 201 rfl rfl)) rfl rfl (Nat.le_of_ble_eq_true rfl) (lw_i1 []) (oc_bySteps (d := 0) h1 ) (by decide) hf hV (fun τ1 H1 locs1 g1 V1 => ?_)
  have hS1 := V1.2.2.2.2.2.2.2.2.2
  refine lv_aload_n hx hb (am_dec td_law20 19 rfl) rfl (lv_at hl 2 rfl) ?_
  refine lw_c2 (as := []) (rest := [.int _]) hX hl.1 (am_dec td_law20 20 rfl) (am_mV.of mt_11_bySteps (am_in9 16 rfl rfl)) rfl rfl (Nat.le_of_ble_eq_true rfl) (lw_i1 []) (om_bySteps (d := 0) h2 ) (by decide) hf V1 (fun τ2 H2 locs2 g2 V2 => ?_)
  exact lv_icmp_eq hx hb (am_dec td_law20 21 rfl) rfl (fun _ => kk _ τ1 τ2 x H2 locs2 cells slots ls g1 g2 hs V2 hl (Nat.le_add_right _ _) (Nat.le_add_right _ _)) (fun h => absurd rfl h)
theorem lc_25 (hX : lw_X p s m meth c b L xs D K cL ρ1 ρ2) (hl : lw_L b ρ1 ρ2 w i ls) (h1 : ci σ1 s0) (h2 : ri σ2 s0) (hs : sX_ok s0) (hV : lw_V s D K cL ρ1 ρ2 w σ1 σ2 x H locs) (hi : i + 5 < L) (hf : cells ≤ 601024 ∧ slots ≤ 7293034) (kk : lw_K p l e s m below meth c b D K cL ρ1 ρ2 w i cells slots Ψ) : W p l e room_1 s m #[Value.ref b] below meth c H locs cells slots Ψ (F0 m 1024 ls []) := by
  have hx := hX.1.1
  have hb := hX.1.2.1
  have hS := hV.2.2.2.2.2.2.2.2.2
  refine lv_aload_n hx hb (am_dec td_law20 24 rfl) rfl (lv_at hl 1 rfl) ?_
  refine lw_arg 1 hX hl hS rfl (by omega) (am_dec td_law20 25 rfl) (am_dec td_law20 26 rfl) (am_dec td_law20 27 rfl) (am_dec td_law20 28 rfl) (am_dec td_law20 29 rfl) ?_
  refine lw_arg 2 hX hl hS rfl (by omega) (am_dec td_law21 0 rfl) (am_dec td_law21 1 rfl) (am_dec td_law21 2 rfl) (am_dec td_law21 3 rfl) (am_dec td_law21 4 rfl) ?_
  refine lw_arg 3 hX hl hS rfl (by omega) (am_dec td_law21 5 rfl) (am_dec td_law21 6 rfl) (am_dec td_law21 7 rfl) (am_dec td_law21 8 rfl) (am_dec td_law21 9 rfl) ?_
  refine lw_arg 4 hX hl hS rfl (by omega) (am_dec td_law21 10 rfl) (am_dec td_law21 11 rfl) (am_dec td_law21 12 rfl) (am_dec td_law21 13 rfl) (am_dec td_law21 14 rfl) ?_
  refine lw_c1 (as := [.int (xs (i + 1)), .int (xs (i + 2)), .int (xs (i + 3)), .int (xs (i + 4))]) (rest := []) hX hl.1 (am_dec td_law21 15 rfl) (am_mV.of mt_10_ifLearned (am_in5 217 rfl rfl)) rfl rfl (Nat.le_of_ble_eq_true rfl) (lw_i1 [(xs (i + 1)), (xs (i + 2)), (xs (i + 3)), (xs (i + 4))]) (oc_ifLearned (d := 0) h1 _ _ _ _) (by decide) hf hV (fun τ1 H1 locs1 g1 V1 => ?_)
  have hS1 := V1.2.2.2.2.2.2.2.2.2
  refine lv_aload_n hx hb (am_dec td_law21 16 rfl) rfl (lv_at hl 2 rfl) ?_
  refine lw_arg 1 hX hl hS1 rfl (by omega) (am_dec td_law21 17 rfl) (am_dec td_law21 18 rfl) (am_dec td_law21 19 rfl) (am_dec td_law21 20 rfl) (am_dec td_law21 21 rfl) ?_
  refine lw_arg 2 hX hl hS1 rfl (by omega) (am_dec td_law21 22 rfl) (am_dec td_law21 23 rfl) (am_dec td_law21 24 rfl) (am_dec td_law21 25 rfl) (am_dec td_law21 26 rfl) ?_
  refine lw_arg 3 hX hl hS1 rfl (by omega) (am_dec td_law21 27 rfl) (am_dec td_law21 28 rfl) (am_dec td_law21 29 rfl) (am_dec td_law22 0 rfl) (am_dec td_law22 1 rfl) ?_
  refine lw_arg 4 hX hl hS1 rfl (by omega) (am_dec td_law22 2 rfl) (am_dec td_law22 3 rfl) (am_dec td_law22 4 rfl) (am_dec td_law22 5 rfl) (am_dec td_law22 6 rfl) ?_
  refine lw_c2 (as := [.int (xs (i + 1)), .int (xs (i + 2)), .int (xs (i + 3)), .int (xs (i + 4))]) (rest := [.int _]) hX hl.1 (am_dec td_law22 7 rfl) (am_mV.of mt_11_ifLearned (am_in9 24 rfl rfl)) rfl rfl (Nat.le_of_ble_eq_true rfl) (lw_i1 [(xs (i + 1)), (xs (i + 2)), (xs (i + 3)), (xs (i + 4))]) (om_ifLearned (d := 0) h2 _ _ _ _) (by decide) hf V1 (fun τ2 H2 locs2 g2 V2 => ?_)
  exact lv_icmp_eq hx hb (am_dec td_law22 8 rfl) rfl (fun _ => kk _ τ1 τ2 x H2 locs2 cells slots ls g1 g2 hs V2 hl (Nat.le_add_right _ _) (Nat.le_add_right _ _)) (fun h => absurd rfl h)
theorem lc_26 (hX : lw_X p s m meth c b L xs D K cL ρ1 ρ2) (hl : lw_L b ρ1 ρ2 w i ls) (h1 : ci σ1 s0) (h2 : ri σ2 s0) (hs : sX_ok s0) (hV : lw_V s D K cL ρ1 ρ2 w σ1 σ2 x H locs) (hi : i + 5 < L) (hf : cells ≤ 601024 ∧ slots ≤ 7293034) (kk : lw_K p l e s m below meth c b D K cL ρ1 ρ2 w i cells slots Ψ) : W p l e room_1 s m #[Value.ref b] below meth c H locs cells slots Ψ (F0 m 1085 ls []) := by
  have hx := hX.1.1
  have hb := hX.1.2.1
  have hS := hV.2.2.2.2.2.2.2.2.2
  refine lv_aload_n hx hb (am_dec td_law22 11 rfl) rfl (lv_at hl 1 rfl) ?_
  refine lw_arg 1 hX hl hS rfl (by omega) (am_dec td_law22 12 rfl) (am_dec td_law22 13 rfl) (am_dec td_law22 14 rfl) (am_dec td_law22 15 rfl) (am_dec td_law22 16 rfl) ?_
  refine lw_arg 2 hX hl hS rfl (by omega) (am_dec td_law22 17 rfl) (am_dec td_law22 18 rfl) (am_dec td_law22 19 rfl) (am_dec td_law22 20 rfl) (am_dec td_law22 21 rfl) ?_
  refine lw_c1 (as := [.int (xs (i + 1)), .int (xs (i + 2))]) (rest := []) hX hl.1 (am_dec td_law22 22 rfl) (am_mV.of mt_10_needed (am_in5 225 rfl rfl)) rfl rfl (Nat.le_of_ble_eq_true rfl) (lw_i1 [(xs (i + 1)), (xs (i + 2))]) (oc_needed (d := 0) h1 _ _) (by decide) hf hV (fun τ1 H1 locs1 g1 V1 => ?_)
  have hS1 := V1.2.2.2.2.2.2.2.2.2
  refine lv_aload_n hx hb (am_dec td_law22 23 rfl) rfl (lv_at hl 2 rfl) ?_
  refine lw_arg 1 hX hl hS1 rfl (by omega) (am_dec td_law22 24 rfl) (am_dec td_law22 25 rfl) (am_dec td_law22 26 rfl) (am_dec td_law22 27 rfl) (am_dec td_law22 28 rfl) ?_
  refine lw_arg 2 hX hl hS1 rfl (by omega) (am_dec td_law22 29 rfl) (am_dec td_law23 0 rfl) (am_dec td_law23 1 rfl) (am_dec td_law23 2 rfl) (am_dec td_law23 3 rfl) ?_
  refine lw_c2 (as := [.int (xs (i + 1)), .int (xs (i + 2))]) (rest := [.int _]) hX hl.1 (am_dec td_law23 4 rfl) (am_mV.of mt_11_needed (am_in9 35 rfl rfl)) rfl rfl (Nat.le_of_ble_eq_true rfl) (lw_i1 [(xs (i + 1)), (xs (i + 2))]) (om_needed (d := 0) h2 _ _) (by decide) hf V1 (fun τ2 H2 locs2 g2 V2 => ?_)
  exact lv_icmp_eq hx hb (am_dec td_law23 5 rfl) rfl (fun _ => kk _ τ1 τ2 x H2 locs2 cells slots ls g1 g2 hs V2 hl (Nat.le_add_right _ _) (Nat.le_add_right _ _)) (fun h => absurd rfl h)
theorem lc_27 (hX : lw_X p s m meth c b L xs D K cL ρ1 ρ2) (hl : lw_L b ρ1 ρ2 w i ls) (h1 : ci σ1 s0) (h2 : ri σ2 s0) (hs : sX_ok s0) (hV : lw_V s D K cL ρ1 ρ2 w σ1 σ2 x H locs) (hi : i + 5 < L) (hf : cells ≤ 601024 ∧ slots ≤ 7293034) (kk : lw_K p l e s m below meth c b D K cL ρ1 ρ2 w i cells slots Ψ) : W p l e room_1 s m #[Value.ref b] below meth c H locs cells slots Ψ (F0 m 1122 ls []) := by
  have hx := hX.1.1
  have hb := hX.1.2.1
  have hS := hV.2.2.2.2.2.2.2.2.2
  refine lv_aload_n hx hb (am_dec td_law23 8 rfl) rfl (lv_at hl 1 rfl) ?_
  refine lw_arg 1 hX hl hS rfl (by omega) (am_dec td_law23 9 rfl) (am_dec td_law23 10 rfl) (am_dec td_law23 11 rfl) (am_dec td_law23 12 rfl) (am_dec td_law23 13 rfl) ?_
  refine lw_c1 (as := [.int (xs (i + 1))]) (rest := []) hX hl.1 (am_dec td_law23 14 rfl) (am_mV.of mt_10_count (am_in5 229 rfl rfl)) rfl rfl (Nat.le_of_ble_eq_true rfl) (lw_i1 [(xs (i + 1))]) (oc_count (d := 0) h1 _) (by decide) hf hV (fun τ1 H1 locs1 g1 V1 => ?_)
  have hS1 := V1.2.2.2.2.2.2.2.2.2
  refine lv_aload_n hx hb (am_dec td_law23 15 rfl) rfl (lv_at hl 2 rfl) ?_
  refine lw_arg 1 hX hl hS1 rfl (by omega) (am_dec td_law23 16 rfl) (am_dec td_law23 17 rfl) (am_dec td_law23 18 rfl) (am_dec td_law23 19 rfl) (am_dec td_law23 20 rfl) ?_
  refine lw_c2 (as := [.int (xs (i + 1))]) (rest := [.int _]) hX hl.1 (am_dec td_law23 21 rfl) (am_mV.of mt_11_count (am_in9 39 rfl rfl)) rfl rfl (Nat.le_of_ble_eq_true rfl) (lw_i1 [(xs (i + 1))]) (om_count (d := 0) h2 _) (by decide) hf V1 (fun τ2 H2 locs2 g2 V2 => ?_)
  exact lv_icmp_eq hx hb (am_dec td_law23 22 rfl) rfl (fun _ => kk _ τ1 τ2 x H2 locs2 cells slots ls g1 g2 hs V2 hl (Nat.le_add_right _ _) (Nat.le_add_right _ _)) (fun h => absurd rfl h)
end LWB
