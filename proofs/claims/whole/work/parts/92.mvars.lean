/-! values of a state, a state of values: the reference's least, wide, takesValues, value, stateOf; the class's value, stateOf -/
theorem i64_of (x : Int32) : x.toInt64 = Int64.ofInt x.toInt := by rw [← Int32.toInt_toInt64, Int64.ofInt_toInt]
theorem i64_sub (x : Int32) {b : Int} (h1 : -2147483648 ≤ b) (h2 : b < 2147483648) : x.toInt64 - (iI b).toInt64 = Int64.ofInt (x.toInt - b) := by rw [i64_of, i64_of, iI_to h1 h2, ← Int64.ofInt_sub]
theorem i64_lt {a b : Int} (h1 : -4294967296 ≤ a) (h2 : a < 4294967296) (h3 : -4294967296 ≤ b) (h4 : b < 4294967296) : (lg_cmp (Int64.ofInt a) (Int64.ofInt b) < 0) = (a < b) := by
  refine propext ((lg_cmp_lt _ _).trans ?_)
  rw [Int64.lt_iff_toInt_lt, Int64.toInt_ofInt_of_le (by omega) (by omega), Int64.toInt_ofInt_of_le (by omega) (by omega)]
def v_thr (N nv : Nat) (x1 x2 : Int32) : Int32 := match am_ix N x1 with
  | none => 1
  | some _ => match am_ix nv x2 with
    | none => 2
    | some _ => 0
def v_value (N nv : Nat) (lo : Nat → Int) (wd : Nat → Nat) (x1 x2 : Int32) : Int32 := match am_ix N x1 with
  | none => 0
  | some s => match am_ix nv x2 with
    | none => 0
    | some v => iI (wl_v nv lo wd s v)
section MV
variable {d nv ns nb N K T : Nat} {lo : Nat → Int} {wd : Nat → Nat} {tb : Nat → Int32} {fl : Nat → Nat → Bool} {nx : Nat → Nat → Option Nat} {σ : am_St}
theorem wl_lf_le {s : Nat} : ∀ j, wl_lf nv wd s j ≤ s := by
  intro j
  induction j with
  | zero => exact Nat.le_refl _
  | succ j ih => exact Nat.le_trans (Nat.div_le_self _ _) ih
theorem sp_11_least (h : mo_V σ nv ns nb lo wd N) {v : Nat} (hv : v < nv) : am_C true ya_11_least d [.ref (am_oid 16), .int (nI v)] σ (fun r τ => τ = σ ∧ r = some (.int (iI (lo v)))) := by
  have hn := h.1.1
  have e : (8 : Int32) + 2 * nI v = nI (8 + 2 * v) := by rw [show (8 : Int32) = nI 8 from rfl, show (2 : Int32) = nI 2 from rfl, nI_mul, nI_add]
  refine am_enter rfl (by simp [Value.category]) (Nat.le_of_ble_eq_true rfl) ?_
  refine kb_11_least_0 (hi0 := by rw [e]; exact vp_in_nI (by omega) (by omega)) (hq := ⟨rfl, ?_⟩)
  rw [e, nI_clamp (show 8 + 2 * v < 2 ^ 31 by omega), (h.2.2.2.2 v hv).1]
theorem sp_11_wide (h : mo_V σ nv ns nb lo wd N) {v : Nat} (hv : v < nv) : am_C true ya_11_wide (d + 1) [.ref (am_oid 16), .int (nI v)] σ (fun r τ => τ = σ ∧ r = some (.int (nI (wd v)))) := by
  have hn := h.1.1
  have e : (8 : Int32) + 2 * nI v + 1 = nI (8 + 2 * v + 1) := by rw [show (8 : Int32) = nI 8 from rfl, show (2 : Int32) = nI 2 from rfl, show (1 : Int32) = nI 1 from rfl, nI_mul, nI_add, nI_add]
  refine am_enter rfl (by simp [Value.category]) (Nat.le_of_ble_eq_true rfl) ?_
  refine kb_11_wide_0 (hi0 := by rw [e]; exact vp_in_nI (by omega) (by omega)) (hC := sp_11_least h hv) (k := fun r τ hr => ?_)
  obtain ⟨rfl, rfl⟩ := hr
  refine kb_11_wide_18 ⟨rfl, ?_⟩
  rw [e, nI_clamp (show 8 + 2 * v + 1 < 2 ^ 31 by omega), (h.2.2.2.2 v hv).2, show (1 : Int32) = iI 1 from rfl, iI_sub, iI_add, ← iI_n]
  congr 3
  omega
theorem sp_11_takesValues (h : mo_V σ nv ns nb lo wd N) {s : Nat} (hs : s < N) : am_C true ya_11_takesValues (d + 2) [.ref (am_oid 16), .int (nI s)] σ (fun r τ => r = none ∧ ∃ F : Nat → Int32, τ = am_sA σ 16 24 F ∧ ∀ v, v < nv → F v = iI (wl_v nv lo wd s v)) := by
  obtain ⟨⟨k1, k2, k3, k4⟩, v0, -, -, hb⟩ := id h
  have hV : ∀ F : Nat → Int32, mo_V (am_sA σ 16 24 F) nv ns nb lo wd N := fun F => by
    obtain ⟨g0, g1, g2, g3, g4⟩ := h
    have e3 : am_A (am_sA σ 16 24 F) 16 3 = am_A σ 16 3 := by rw [am_A_sA, if_neg (by simp)]
    exact ⟨g0, by rw [e3]; exact g1, by rw [e3]; exact g2, by rw [e3]; exact g3, fun v hv => by rw [e3]; exact g4 v hv⟩
  have loop : ∀ (m : Nat), m ≤ nv → ∀ F : Nat → Int32, (∀ v, m ≤ v → v < nv → F v = iI (wl_v nv lo wd s v)) → am_T true ya_11_takesValues (d + 2) (fun r τ => r = none ∧ ∃ F : Nat → Int32, τ = am_sA σ 16 24 F ∧ ∀ v, v < nv → F v = iI (wl_v nv lo wd s v)) 11 [some (.ref (am_oid 16)), some (.int (nI s)), some (.int (nI (wl_lf nv wd s (nv - m)))), some (.int (nI m - 1))] [] (am_sA σ 16 24 F) := by
    intro m
    induction m with
    | zero =>
      intro hm F hF
      exact kb_11_takesValues_11 (kt := fun _ => kb_11_takesValues_48 ⟨rfl, F, rfl, fun v hv => hF v (Nat.zero_le v) hv⟩) (kf := fun z => absurd (show nI 0 - 1 < 0 by decide) z)
    | succ m ih =>
      intro hm F hF
      have em : nI (m + 1) - 1 = nI m := by rw [← nI_1, Int32.add_sub_cancel]
      have hl : wl_lf nv wd s (nv - (m + 1)) ≤ s := wl_lf_le _
      obtain ⟨l1, l2, l3⟩ := k2 m (by omega)
      have hz : ¬ nI (wd m) = 0 := by rw [nI_eq0 (by omega)]; omega
      rw [em]
      refine kb_11_takesValues_11 (kt := fun z => absurd z (nI_pos (by omega))) (kf := fun _ => ?_)
      refine kb_11_takesValues_15 (hC := sp_11_least (hV F) (show m < nv by omega)) (k := fun r τ hr => ?_)
      obtain ⟨hτ, rfl⟩ := hr
      rw [hτ]
      refine kb_11_takesValues_25 (hC := sp_11_wide (hV F) (show m < nv by omega)) (k := fun r τ1 hr => ?_)
      obtain ⟨hτ1, rfl⟩ := hr
      rw [hτ1]
      refine kb_11_takesValues_31 (hz0 := hz) (hi1 := vp_in_nI (by omega) (by omega)) (hC := by
        rw [am_sA_sA]
        exact sp_11_wide (hV _) (show m < nv by omega)) (k := fun r τ2 hr => ?_)
      obtain ⟨hτ2, rfl⟩ := hr
      rw [hτ2]
      refine kb_11_takesValues_40 (hz0 := hz) (k := ?_)
      have hlf : wl_lf nv wd s (nv - (m + 1)) / wd m = wl_lf nv wd s (nv - m) := by
        have e1 : nv - m = (nv - (m + 1)) + 1 := by omega
        rw [e1]
        show _ = wl_lf nv wd s (nv - (m + 1)) / wd (nv - 1 - (nv - (m + 1)))
        rw [show nv - 1 - (nv - (m + 1)) = m by omega]
      rw [pk_rem (show wl_lf nv wd s (nv - (m + 1)) < 2 ^ 31 by omega) (by omega) (by omega), pk_div (show wl_lf nv wd s (nv - (m + 1)) < 2 ^ 31 by omega) (by omega) (by omega), hlf, nI_clamp (show m < 2 ^ 31 by omega), am_A_sA, if_pos ⟨rfl, rfl⟩, ← Int32.sub_eq_add_neg]
      refine ih (by omega) _ (fun v h1 h2 => ?_)
      by_cases c : v = m
      · subst c
        rw [upd_s, ← iI_n, iI_add]
        unfold wl_v
        rw [show nv - 1 - v = nv - (v + 1) by omega]
      · rw [upd_n c]; exact hF v (by omega) h2
  refine am_enter rfl (by simp [Value.category]) (Nat.le_of_ble_eq_true rfl) (kb_11_takesValues_0 (k := ?_))
  have := loop nv (Nat.le_refl _) (am_A σ 16 24) (fun v h1 h2 => absurd h2 (by omega))
  rw [am_sA_id, Nat.sub_self] at this
  rw [v0]
  exact this
theorem mo_V.fm {is as : List Nat} {τ : am_St} (h : mo_V σ nv ns nb lo wd N) (hf : mo_Fm is as σ τ) (ha : as.contains 3 = false) : mo_V τ nv ns nb lo wd N := by
  obtain ⟨g0, g1, g2, g3, g4⟩ := h
  have e3 := hf.2 3 ha
  exact ⟨g0, by rw [e3]; exact g1, by rw [e3]; exact g2, by rw [e3]; exact g3, fun v hv => by rw [e3]; exact g4 v hv⟩
theorem sp_11_value (hW : mo_Wo σ N K T tb fl nx) (h : mo_V σ nv ns nb lo wd N) (x1 x2 : Int32) : am_C true ya_11_value (d + 3) [.ref (am_oid 16), .int x1, .int x2] σ (fun r τ => r = some (.int (v_value N nv lo wd x1 x2)) ∧ am_I τ 16 0 = v_thr N nv x1 x2 ∧ mo_Fm [0] [24] σ τ) := by
  have hW0 := hW.s0 0
  have F0 : mo_Fm [0] [24] σ (am_sI σ 16 0 0) := mo_Fm.rf.sI (by rfl) _
  have h0 := h.fm F0 rfl
  have hN := hW.1
  have hnv := h.1.1
  have b0 := h0.2.1
  refine am_enter rfl (by simp [Value.category]) (Nat.le_of_ble_eq_true rfl) ?_
  refine kb_11_value_0 (hC := sp_11_isState hW0 x1) (k := fun r τ hr => ?_)
  obtain ⟨hτ, rfl⟩ := hr
  rw [← hτ] at h0 F0 b0
  rcases am_ix_cases N (by omega) x1 with ⟨s, hs, rfl, e, -, -⟩ | ⟨e, -⟩
  · rw [e]
    refine kb_11_value_10 (kt := fun _ => ?_) (kf := fun z => absurd z (show ¬ am_bI true = 0 by decide))
    rcases am_ix_cases nv (by omega) x2 with ⟨v, hv, rfl, e2, z1, z2⟩ | ⟨e2, z⟩
    · have eV : v_value N nv lo wd (nI s) (nI v) = iI (wl_v nv lo wd s v) := by unfold v_value; rw [e]; dsimp only; rw [e2]
      have eT : v_thr N nv (nI s) (nI v) = 0 := by unfold v_thr; rw [e]; dsimp only; rw [e2]
      rw [eV, eT]
      refine kb_11_value_20 (kt := fun z => absurd z z1) (kf := fun _ => ?_)
      refine kb_11_value_24 (kt := fun _ => ?_) (kf := fun z => absurd (by rw [b0]; exact nI_lt hv (by omega)) z)
      refine kb_11_value_41 (hC := sp_11_takesValues h0 hs) (k := fun r τ1 hr => ?_)
      obtain ⟨rfl, F, hτ1, hF⟩ := hr
      refine kb_11_value_46 (hi0 := vp_in_nI (by omega) (by omega)) (hq := ⟨?_, ?_, ?_⟩)
      · rw [nI_clamp (show v < 2 ^ 31 by omega), hτ1, am_A_sA, if_pos ⟨rfl, rfl⟩, hF v hv]
      · rw [hτ1, hτ]; show am_I (am_sI σ 16 0 0) 16 0 = 0; rw [am_I_sI, if_pos ⟨rfl, rfl⟩]
      · rw [hτ1]; exact F0.sA (by rfl) _
    · have eV : v_value N nv lo wd (nI s) x2 = 0 := by unfold v_value; rw [e]; dsimp only; rw [e2]
      have eT : v_thr N nv (nI s) x2 = 2 := by unfold v_thr; rw [e]; dsimp only; rw [e2]
      rw [eV, eT]
      have out : am_T true ya_11_value (d + 3) (fun r τ => r = some (.int 0) ∧ am_I τ 16 0 = 2 ∧ mo_Fm [0] [24] σ τ) 34 [some (.ref (am_oid 16)), some (.int (nI s)), some (.int x2)] [] τ := kb_11_value_34 ⟨rfl, by rw [am_I_sI, if_pos ⟨rfl, rfl⟩], F0.sI (by rfl) _⟩
      refine kb_11_value_20 (kt := fun _ => out) (kf := fun y1 => ?_)
      refine kb_11_value_24 (kt := fun y2 => ?_) (kf := fun _ => out)
      exfalso
      rw [b0] at y2
      rcases z with z | z
      · exact y1 z
      · have a := Int32.lt_iff_toInt_lt.mp y2
        have b := Int32.le_iff_toInt_le.mp z
        omega
  · have eV : v_value N nv lo wd x1 x2 = 0 := by unfold v_value; rw [e]
    have eT : v_thr N nv x1 x2 = 1 := by unfold v_thr; rw [e]
    rw [eV, eT, e]
    exact kb_11_value_10 (kt := fun z => absurd rfl z) (kf := fun _ => kb_11_value_13 ⟨rfl, by rw [am_I_sI, if_pos ⟨rfl, rfl⟩], F0.sI (by rfl) _⟩)
theorem sp_11_stateOf (h : mo_V σ nv ns nb lo wd N) (x1 x2 x3 : Int32) : am_C true ya_11_stateOf (d + 2) [.ref (am_oid 16), .int x1, .int x2, .int x3] σ (fun r τ => τ = am_sI σ 16 0 0 ∧ r = some (.int (am_oI (-1) (wl_s lo wd (wl_3 x1 x2 x3) nv)))) := by
  have F0 : mo_Fm [0] [] σ (am_sI σ 16 0 0) := mo_Fm.rf.sI (by rfl) _
  have h0 := h.fm F0 rfl
  obtain ⟨σ', hσ'⟩ : ∃ σ', σ' = am_sI σ 16 0 0 := ⟨_, rfl⟩
  rw [← hσ'] at h0 ⊢
  obtain ⟨⟨k1, k2, k3, k4⟩, v0, -, -, hb⟩ := id h0
  have loop : ∀ (j v a : Nat) (a6 a7 : Option Value), v + j = nv → wl_s lo wd (wl_3 x1 x2 x3) v = some a → am_T true ya_11_stateOf (d + 2) (fun r τ => τ = σ' ∧ r = some (.int (am_oI (-1) (wl_s lo wd (wl_3 x1 x2 x3) nv)))) 11 [some (.ref (am_oid 16)), some (.int x1), some (.int x2), some (.int x3), some (.int (nI a)), some (.int (nI v)), a6, a7] [] σ' := by
    intro j
    induction j with
    | zero =>
      intro v a a6 a7 hv ha
      have : v = nv := by omega
      subst this
      exact kb_11_stateOf_11 (kt := fun _ => kb_11_stateOf_96 ⟨rfl, by rw [ha]; rfl⟩) (kf := fun z => absurd (by rw [v0]; exact nI_le (by omega) (by omega)) z)
    | succ j ih =>
      intro v a a6 a7 hv ha
      obtain ⟨l1, l2, l3⟩ := k2 v (by omega)
      obtain ⟨x, hx⟩ : ∃ x, x = if v = 0 then x1 else if v = 1 then x2 else x3 := ⟨_, rfl⟩
      have ef : wl_3 x1 x2 x3 v = x.toInt := by rw [hx]; rfl
      have hr := i32_rng x
      have es : wl_s lo wd (wl_3 x1 x2 x3) (v + 1) = if lo v ≤ x.toInt ∧ x.toInt < lo v + wd v then some (a * wd v + (x.toInt - lo v).toNat) else none := by
        rw [← ef]
        show (match wl_s lo wd (wl_3 x1 x2 x3) v with | none => none | some a => _) = _
        rw [ha]
      have out : ∀ b6 b7 : Option Value, ¬ (lo v ≤ x.toInt ∧ x.toInt < lo v + wd v) → am_T true ya_11_stateOf (d + 2) (fun r τ => τ = σ' ∧ r = some (.int (am_oI (-1) (wl_s lo wd (wl_3 x1 x2 x3) nv)))) 73 [some (.ref (am_oid 16)), some (.int x1), some (.int x2), some (.int x3), some (.int (nI a)), some (.int (nI v)), b6, b7] [] σ' := fun b6 b7 hc => by
        rw [if_neg hc] at es
        have := wl_s_none es j
        rw [show v + 1 + j = nv by omega] at this
        exact kb_11_stateOf_73 ⟨rfl, by rw [this]; rfl⟩
      have go : am_T true ya_11_stateOf (d + 2) (fun r τ => τ = σ' ∧ r = some (.int (am_oI (-1) (wl_s lo wd (wl_3 x1 x2 x3) nv)))) 42 [some (.ref (am_oid 16)), some (.int x1), some (.int x2), some (.int x3), some (.int (nI a)), some (.int (nI v)), a6, a7] [.int x] σ' := by
        refine kb_11_stateOf_42 (hC := sp_11_least h0 (show v < nv by omega)) (k := fun r τ hr => ?_)
        obtain ⟨hτ, rfl⟩ := hr
        rw [hτ]
        have ed := i64_sub x (b := lo v) (by omega) (by omega)
        refine kb_11_stateOf_49 (kt := fun z => out _ _ ?_) (kf := fun z => ?_)
        · rw [ed, show (0 : Int64) = Int64.ofInt 0 from rfl, i64_lt (by omega) (by omega) (by omega) (by omega)] at z
          omega
        rw [ed, show (0 : Int64) = Int64.ofInt 0 from rfl, i64_lt (by omega) (by omega) (by omega) (by omega)] at z
        rw [ed]
        refine kb_11_stateOf_60 (hC := sp_11_wide h0 (show v < nv by omega)) (k := fun r τ1 hr => ?_)
        obtain ⟨hτ1, rfl⟩ := hr
        rw [hτ1]
        have ew : (nI (wd v)).toInt64 = Int64.ofInt (wd v) := by rw [i64_of, nI_toInt (by omega)]
        refine kb_11_stateOf_68 (kt := fun w => ?_) (kf := fun w => out _ _ ?_)
        · rw [ew, i64_lt (by omega) (by omega) (by omega) (by omega)] at w
          rw [if_pos (by omega)] at es
          refine kb_11_stateOf_75 (hC := sp_11_wide h0 (show v < nv by omega)) (k := fun r τ2 hr => ?_)
          obtain ⟨hτ2, rfl⟩ := hr
          rw [hτ2]
          refine kb_11_stateOf_83 (k := ?_)
          have ev : nI a * nI (wd v) + (Int64.ofInt (x.toInt - lo v)).toInt32 = nI (a * wd v + (x.toInt - lo v).toNat) := by
            rw [Int64.toInt32_ofInt, nI_mul, ← nI_add]
            congr 1
            show iI (x.toInt - lo v) = nI _
            rw [← iI_n]
            congr 1
            omega
          rw [ev, nI_1]
          exact ih (v + 1) _ _ _ (by omega) es
        · rw [ew, i64_lt (by omega) (by omega) (by omega) (by omega)] at w
          omega
      refine kb_11_stateOf_11 (kt := fun z => absurd z (by rw [v0]; exact nI_ge (by omega) (by omega))) (kf := fun _ => ?_)
      have hv3 : v = 0 ∨ v = 1 ∨ v = 2 := by omega
      refine kb_11_stateOf_22 (kt := fun z => ?_) (kf := fun z => kb_11_stateOf_27 (k := ?_))
      · have c0 : v ≠ 0 := fun c => z (by rw [c]; rfl)
        refine kb_11_stateOf_31 (kt := fun w => kb_11_stateOf_41 (k := ?_)) (kf := fun w => kb_11_stateOf_37 (k := ?_))
        · have c1 : v ≠ 1 := fun c => w (by rw [c]; rfl)
          rw [if_neg c0, if_neg c1] at hx
          rw [hx] at go; exact go
        · have c1 : v = 1 := nI_inj (by omega) (by decide) w
          rw [if_neg c0, if_pos c1] at hx
          rw [hx] at go; exact go
      · have c0 : v = 0 := nI_inj (by omega) (by decide) z
        rw [if_pos c0] at hx
        rw [hx] at go; exact go
  refine am_enter rfl (by simp [Value.category]) (Nat.le_of_ble_eq_true rfl) (kb_11_stateOf_0 (k := ?_))
  rw [← hσ']
  have := loop nv 0 0 none none (by omega) rfl
  rw [nI_0] at this
  exact this
/-! the class -/
theorem sp_10_stateOf (h : cl_v σ nv ns nb lo wd N) (x1 x2 x3 : Int32) : am_C false ya_10_stateOf (d + 2) [.ref (am_oid 0), .int x1, .int x2, .int x3] σ (fun r τ => r = some (.int (am_oI (-1) (wl_s lo wd (wl_3 x1 x2 x3) nv))) ∧ ∃ F : Nat → Int32, τ = am_sA σ 4 12 F) := by
  refine am_enter rfl (by simp [Value.category]) (Nat.le_of_ble_eq_true rfl) ?_
  refine kb_10_stateOf_0 (hC := sp_9_stateWith h x1 x2 x3) (k := fun r τ hr => ?_)
  obtain ⟨rfl, hτ⟩ := hr
  exact kb_10_stateOf_10 ⟨rfl, hτ⟩
theorem sp_10_value (hW : am_Wo σ N K T tb fl nx) (h : cl_v σ nv ns nb lo wd N) {s v : Nat} (hs : s < N) (hv : v < nv) : am_C false ya_10_value (d + 1) [.ref (am_oid 0), .int (nI s), .int (nI v)] σ (fun r τ => τ = σ ∧ r = some (.int (iI (wl_v nv lo wd s v)))) := by
  have hN := hW.1
  have hnv := h.1.1
  obtain ⟨z1, z2, e⟩ : ¬ nI v < 0 ∧ nI v < am_I σ 4 0 ∧ am_ix N (nI s) = some s := by
    refine ⟨nI_pos (by omega), by rw [h.2.1]; exact nI_lt hv (by omega), ?_⟩
    unfold am_ix
    rw [if_neg (fun z => z.elim (fun z => nI_pos (show s < 2 ^ 31 by omega) z) (fun z => nI_ge hs (show N < 2 ^ 31 by omega) z)), nI_clamp (by omega)]
  refine am_enter rfl (by simp [Value.category]) (Nat.le_of_ble_eq_true rfl) ?_
  refine kb_10_value_0 (hC := sp_9_hasState hW (nI s)) (k := fun r τ hr => ?_)
  obtain ⟨rfl, rfl⟩ := hr
  rw [e]
  refine kb_10_value_8 (kt := fun _ => ?_) (kf := fun z => absurd z (show ¬ am_bI true = 0 by decide))
  refine kb_10_value_21 (kt := fun z => absurd z z1) (kf := fun _ => ?_)
  refine kb_10_value_25 (kt := fun _ => ?_) (kf := fun z => absurd z2 z)
  have e3 : nI s * 3 + nI v = nI (3 * s + v) := by rw [show (3 : Int32) = nI 3 from rfl, nI_mul, nI_add, Nat.mul_comm]
  refine kb_10_value_46 (hi0 := by rw [e3]; exact vp_in_nI (by omega) (by omega)) (hq := ⟨rfl, ?_⟩)
  rw [e3, nI_clamp (show 3 * s + v < 2 ^ 31 by omega), h.2.2.2.2.2 s hs v hv]
end MV
