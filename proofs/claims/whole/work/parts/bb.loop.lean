/-! the law's loop, PRINTED by gen9.py -/
theorem lw_end {i L : Nat} (hi : i ≤ 4000) (hL : L ≤ 3072) : (Int32.ofNat L - nI 6 < nI i) = (L < i + 6) := by
  have e : (nI L - nI 6).toInt = ((L : Int) - 6).bmod 4294967296 := by rw [Int32.toInt_sub, nI_toInt (by omega), nI_toInt (by omega)]; rfl
  rw [Int.bmod_def] at e
  rw [show Int32.ofNat L = nI L from rfl, Int32.lt_iff_toInt_lt, nI_toInt (n := i) (by omega)]
  refine propext ⟨fun z => ?_, fun z => ?_⟩
  · split at e <;> omega
  · split at e <;> omega
section LWL
variable {p : Program} {l : Launch} {e : Env} {s : State} {m : MethodId} {below : List Frame} {meth : Method} {c : Code} {b L : Nat} {xs : Nat → Int32} {D : va_G} {K : Nat → ClassId} {cL : ClassId} {ρ1 ρ2 : Nat → Nat} {w : Nat} {Ψ : State → Prop}
/-- case 3, value: proved in a later part -/
def lw_C3 (p : Program) (l : Launch) (e : Env) (s : State) (m : MethodId) (below : List Frame) (meth : Method) (c : Code) (b L : Nat) (xs : Nat → Int32) (D : va_G) (K : Nat → ClassId) (cL : ClassId) (ρ1 ρ2 : Nat → Nat) (w : Nat) (Ψ : State → Prop) : Prop :=
  ∀ (i : Nat) (s0 : st_X) (σ1 σ2 : am_St) (x : Int64) (H : Heap) (locs : List Loc) (cells slots : Nat) (ls : Array Slot), lw_L b ρ1 ρ2 w i ls → ci σ1 s0 → ri σ2 s0 → sX_ok s0 → lw_V s D K cL ρ1 ρ2 w σ1 σ2 x H locs → i + 5 < L → (cells + 1 ≤ 601024 ∧ slots + 6 ≤ 7293034) → lw_K p l e s m below meth c b D K cL ρ1 ρ2 w i cells slots Ψ → W p l e room_1 s m #[Value.ref b] below meth c H locs cells slots Ψ (F0 m 291 ls [])
theorem lw_loop (hX : lw_X p s m meth c b L xs D K cL ρ1 ρ2) (h3 : lw_C3 p l e s m below meth c b L xs D K cL ρ1 ρ2 w Ψ)
    (kend : ∀ (H : Heap) (locs : List Loc) (ce sl : Nat) (ls : Array Slot), va_S (lw_A s) s.heap H locs → ce ≤ 601024 → sl ≤ 7293034 → W p l e room_1 s m #[Value.ref b] below meth c H locs ce sl Ψ (F0 m 1153 ls [])) :
    ∀ (j i : Nat) (s0 : st_X) (σ1 σ2 : am_St) (x : Int64) (H : Heap) (locs : List Loc) (cells slots : Nat) (ls : Array Slot), L < i + 6 * (j + 1) → i ≤ 4000 → lw_L b ρ1 ρ2 w i ls → ci σ1 s0 → ri σ2 s0 → sX_ok s0 → lw_V s D K cL ρ1 ρ2 w σ1 σ2 x H locs → cells + j ≤ 601024 → slots + 6 * j ≤ 7293034 → W p l e room_1 s m #[Value.ref b] below meth c H locs cells slots Ψ (F0 m 23 ls []) := by
  intro j
  have hx := hX.1.1
  have hb := hX.1.2.1
  have hL := hX.2.2.2.2.2.2.2
  have hbl := hX.2.2.2.2.2.2.1
  have hbA : ¬ lw_A s b := fun q => absurd hbl (Nat.not_lt.mpr q)
  induction j with
  | zero =>
    intro i s0 σ1 σ2 x H locs cells slots ls hj hi hl h1 h2 hs hV hc hq
    have hS := hV.2.2.2.2.2.2.2.2.2
    refine lv_iload hx hb (am_dec td_law0 13 rfl) (lv_at hl 4 rfl) ?_
    refine lv_aload_n hx hb (am_dec td_law0 14 rfl) rfl (lv_at hl 0 rfl) ?_
    refine va_slen hx hb hX.2.2.2.2.2.1 hbl hbA hS (am_dec td_law0 15 rfl) ?_
    refine lv_bipush hx hb (am_dec td_law0 16 rfl) (v := nI 6) rfl ?_
    refine lv_isub hx hb (am_dec td_law0 17 rfl) ?_
    refine lv_icmp_gt hx hb (am_dec td_law0 18 rfl) rfl (fun _ => kend H locs cells slots ls hS (by omega) (by omega)) (fun q => absurd ?_ q)
    rw [lw_end hi hL]; omega
  | succ j ih =>
    intro i s0 σ1 σ2 x H locs cells slots ls hj hi hl h1 h2 hs hV hc hq
    have hS := hV.2.2.2.2.2.2.2.2.2
    refine lv_iload hx hb (am_dec td_law0 13 rfl) (lv_at hl 4 rfl) ?_
    refine lv_aload_n hx hb (am_dec td_law0 14 rfl) rfl (lv_at hl 0 rfl) ?_
    refine va_slen hx hb hX.2.2.2.2.2.1 hbl hbA hS (am_dec td_law0 15 rfl) ?_
    refine lv_bipush hx hb (am_dec td_law0 16 rfl) (v := nI 6) rfl ?_
    refine lv_isub hx hb (am_dec td_law0 17 rfl) ?_
    refine lv_icmp_gt hx hb (am_dec td_law0 18 rfl) rfl (fun _ => kend H locs cells slots ls hS (by omega) (by omega)) (fun q => ?_)
    rw [lw_end hi hL] at q
    have hi5 : i + 5 < L := by omega
    have hf : cells ≤ 601024 ∧ slots ≤ 7293034 := ⟨by omega, by omega⟩
    have kk : lw_K p l e s m below meth c b D K cL ρ1 ρ2 w i cells slots Ψ := by
      intro s0 σ1 σ2 x H locs ce sl ls h1 h2 hs hV hl g1 g2
      refine lv_iinc (k := 4) (v := nI (i + 6)) hx hb (am_dec td_law23 25 rfl) hl rfl ?_ (by decide) rfl (fun ls' hl' => ?_)
      · rw [show Int32.ofInt 6 = nI 6 from rfl, nI_add]
      · refine lv_goto hx hb (am_dec td_law23 26 rfl) (tgt := 23) rfl ?_
        exact ih (i + 6) s0 σ1 σ2 x H locs ce sl ls' (by omega) (by omega) (lv_sub hl' [1, 2, 3, 4, 0] rfl) h1 h2 hs hV (by omega) (by omega)
    refine lv_aload_n hx hb (am_dec td_law0 19 rfl) rfl (lv_at hl 0 rfl) ?_
    refine lv_iload hx hb (am_dec td_law0 20 rfl) (lv_at hl 4 rfl) ?_
    refine va_sld hx hb hX.2.2.2.2.2.1 hbl hbA hS (nI_in (by omega) (by omega)) (am_dec td_law0 21 rfl) ?_
    rw [nI_clamp (by omega)]
    refine lv_bipush hx hb (am_dec td_law0 22 rfl) (v := 31) rfl ?_
    refine lv_iand hx hb (am_dec td_law0 23 rfl) ?_
    obtain ⟨n, hn, en⟩ := vp_in_of (pk_andIn (xs i) (m := 31) 5 (by decide) (by decide)) (by decide)
    rw [en]
    have hz : n = 0 ∨ n = 1 ∨ n = 2 ∨ n = 3 ∨ n = 4 ∨ n = 5 ∨ n = 6 ∨ n = 7 ∨ n = 8 ∨ n = 9 ∨ n = 10 ∨ n = 11 ∨ n = 12 ∨ n = 13 ∨ n = 14 ∨ n = 15 ∨ n = 16 ∨ n = 17 ∨ n = 18 ∨ n = 19 ∨ n = 20 ∨ n = 21 ∨ n = 22 ∨ n = 23 ∨ n = 24 ∨ n = 25 ∨ n = 26 ∨ n = 27 ∨ n = 28 ∨ n = 29 ∨ n = 30 ∨ n = 31 := by omega
    rcases hz with rfl | rfl | rfl | rfl | rfl | rfl | rfl | rfl | rfl | rfl | rfl | rfl | rfl | rfl | rfl | rfl | rfl | rfl | rfl | rfl | rfl | rfl | rfl | rfl | rfl | rfl | rfl | rfl | rfl | rfl | rfl | rfl
    · exact lv_tableIn hx hb (am_dec td_law0 24 rfl) (by decide) (by decide) (tgt := 168) rfl rfl (lc_0 hX hl h1 h2 hs hV hi5 hf kk)
    · exact lv_tableIn hx hb (am_dec td_law0 24 rfl) (by decide) (by decide) (tgt := 241) rfl rfl (lc_1 hX hl h1 h2 hs hV hi5 hf kk)
    · exact lv_tableIn hx hb (am_dec td_law0 24 rfl) (by decide) (by decide) (tgt := 266) rfl rfl (lc_2 hX hl h1 h2 hs hV hi5 hf kk)
    · exact lv_tableIn hx hb (am_dec td_law0 24 rfl) (by decide) (by decide) (tgt := 291) rfl rfl (h3 i s0 σ1 σ2 x H locs cells slots ls hl h1 h2 hs hV hi5 ⟨by omega, by omega⟩ kk)
    · exact lv_tableIn hx hb (am_dec td_law0 24 rfl) (by decide) (by decide) (tgt := 359) rfl rfl (lc_4 hX hl h1 h2 hs hV hi5 hf kk)
    · exact lv_tableIn hx hb (am_dec td_law0 24 rfl) (by decide) (by decide) (tgt := 408) rfl rfl (lc_5 hX hl h1 h2 hs hV hi5 hf kk)
    · exact lv_tableIn hx hb (am_dec td_law0 24 rfl) (by decide) (by decide) (tgt := 445) rfl rfl (lc_6 hX hl h1 h2 hs hV hi5 hf kk)
    · exact lv_tableIn hx hb (am_dec td_law0 24 rfl) (by decide) (by decide) (tgt := 482) rfl rfl (lc_7 hX hl h1 h2 hs hV hi5 hf kk)
    · exact lv_tableIn hx hb (am_dec td_law0 24 rfl) (by decide) (by decide) (tgt := 519) rfl rfl (lc_8 hX hl h1 h2 hs hV hi5 hf kk)
    · exact lv_tableIn hx hb (am_dec td_law0 24 rfl) (by decide) (by decide) (tgt := 544) rfl rfl (lc_9 hX hl h1 h2 hs hV hi5 hf kk)
    · exact lv_tableIn hx hb (am_dec td_law0 24 rfl) (by decide) (by decide) (tgt := 581) rfl rfl (lc_10 hX hl h1 h2 hs hV hi5 hf kk)
    · exact lv_tableIn hx hb (am_dec td_law0 24 rfl) (by decide) (by decide) (tgt := 606) rfl rfl (lc_11 hX hl h1 h2 hs hV hi5 hf kk)
    · exact lv_tableIn hx hb (am_dec td_law0 24 rfl) (by decide) (by decide) (tgt := 619) rfl rfl (lc_12 hX hl h1 h2 hs hV hi5 hf kk)
    · exact lv_tableIn hx hb (am_dec td_law0 24 rfl) (by decide) (by decide) (tgt := 644) rfl rfl (lc_13 hX hl h1 h2 hs hV hi5 hf kk)
    · exact lv_tableIn hx hb (am_dec td_law0 24 rfl) (by decide) (by decide) (tgt := 681) rfl rfl (lc_14 hX hl h1 h2 hs hV hi5 hf kk)
    · exact lv_tableIn hx hb (am_dec td_law0 24 rfl) (by decide) (by decide) (tgt := 718) rfl rfl (lc_15 hX hl h1 h2 hs hV hi5 hf kk)
    · exact lv_tableIn hx hb (am_dec td_law0 24 rfl) (by decide) (by decide) (tgt := 755) rfl rfl (lc_16 hX hl h1 h2 hs hV hi5 hf kk)
    · exact lv_tableIn hx hb (am_dec td_law0 24 rfl) (by decide) (by decide) (tgt := 780) rfl rfl (lc_17 hX hl h1 h2 hs hV hi5 hf kk)
    · exact lv_tableIn hx hb (am_dec td_law0 24 rfl) (by decide) (by decide) (tgt := 817) rfl rfl (lc_18 hX hl h1 h2 hs hV hi5 hf kk)
    · exact lv_tableIn hx hb (am_dec td_law0 24 rfl) (by decide) (by decide) (tgt := 842) rfl rfl (lc_19 hX hl h1 h2 hs hV hi5 hf kk)
    · exact lv_tableIn hx hb (am_dec td_law0 24 rfl) (by decide) (by decide) (tgt := 895) rfl rfl (lc_20 hX hl h1 h2 hs hV hi5 hf kk)
    · exact lv_tableIn hx hb (am_dec td_law0 24 rfl) (by decide) (by decide) (tgt := 960) rfl rfl (lc_21 hX hl h1 h2 hs hV hi5 hf kk)
    · exact lv_tableIn hx hb (am_dec td_law0 24 rfl) (by decide) (by decide) (tgt := 973) rfl rfl (lc_22 hX hl h1 h2 hs hV hi5 hf kk)
    · exact lv_tableIn hx hb (am_dec td_law0 24 rfl) (by decide) (by decide) (tgt := 998) rfl rfl (lc_23 hX hl h1 h2 hs hV hi5 hf kk)
    · exact lv_tableIn hx hb (am_dec td_law0 24 rfl) (by decide) (by decide) (tgt := 1011) rfl rfl (lc_24 hX hl h1 h2 hs hV hi5 hf kk)
    · exact lv_tableIn hx hb (am_dec td_law0 24 rfl) (by decide) (by decide) (tgt := 1024) rfl rfl (lc_25 hX hl h1 h2 hs hV hi5 hf kk)
    · exact lv_tableIn hx hb (am_dec td_law0 24 rfl) (by decide) (by decide) (tgt := 1085) rfl rfl (lc_26 hX hl h1 h2 hs hV hi5 hf kk)
    · exact lv_tableIn hx hb (am_dec td_law0 24 rfl) (by decide) (by decide) (tgt := 1122) rfl rfl (lc_27 hX hl h1 h2 hs hV hi5 hf kk)
    · exact lv_tableOut hx hb (am_dec td_law0 24 rfl) (Or.inr (by decide)) (tgt := 1147) rfl (kk s0 σ1 σ2 x H locs cells slots ls h1 h2 hs hV hl (Nat.le_add_right _ _) (Nat.le_add_right _ _))
    · exact lv_tableOut hx hb (am_dec td_law0 24 rfl) (Or.inr (by decide)) (tgt := 1147) rfl (kk s0 σ1 σ2 x H locs cells slots ls h1 h2 hs hV hl (Nat.le_add_right _ _) (Nat.le_add_right _ _))
    · exact lv_tableOut hx hb (am_dec td_law0 24 rfl) (Or.inr (by decide)) (tgt := 1147) rfl (kk s0 σ1 σ2 x H locs cells slots ls h1 h2 hs hV hl (Nat.le_add_right _ _) (Nat.le_add_right _ _))
    · exact lv_tableOut hx hb (am_dec td_law0 24 rfl) (Or.inr (by decide)) (tgt := 1147) rfl (kk s0 σ1 σ2 x H locs cells slots ls h1 h2 hs hV hl (Nat.le_add_right _ _) (Nat.le_add_right _ _))
end LWL
