/-! THE REFERENCE: fault, is, next, holds, learn, ways, ended, brought, point, pair, node, cost, count, ifLearned, needed -/
theorem ls_sub {a b : List Nat} (h : a.all (fun k => b.contains k) = true) {k : Nat} (hk : b.contains k = false) : a.contains k = false := by
  cases c : a.contains k with
  | false => rfl
  | true =>
    have m : k ∈ a := by simpa using c
    have := List.all_eq_true.mp h k m
    simp at this hk
    exact absurd this hk
abbrev mo_PF := mo_Fm [0, 33, 42, 46, 47] [24, 25, 26, 27, 31, 32, 34, 35, 37, 38, 39, 40, 41, 43, 44, 45, 48, 49]
theorem mo_Fm.wid {is as is' as' : List Nat} {σ τ : am_St} (h : mo_Fm is as σ τ) (hi : is.all (fun k => is'.contains k) = true) (ha : as.all (fun k => as'.contains k) = true) : mo_Fm is' as' σ τ := ⟨fun k hk => h.1 k (ls_sub hi hk), fun k hk => h.2 k (ls_sub ha hk)⟩
theorem v_sw_o {m : Int} {x : Int32} {k : Nat} {f : Nat → Int32} (hm : m = (k : Int)) (hk : k < 2 ^ 31) (h : x < 0 ∨ ¬ x ≤ nI k) : v_sw m f x = -1 := by
  unfold v_sw
  rw [if_pos]
  rcases h with h | h
  · exact Or.inl (Int32.lt_iff_toInt_lt.mp h)
  · rw [Int32.le_iff_toInt_le, nI_toInt hk] at h
    right; omega
theorem v_sw_i {m : Int} {k j : Nat} {f : Nat → Int32} (hm : m = (k : Int)) (hk : k < 2 ^ 31) (hj : j ≤ k) : v_sw m f (nI j) = f j := by
  unfold v_sw
  rw [if_neg (by rw [nI_toInt (show j < 2 ^ 31 by omega)]; omega), nI_clamp (show j < 2 ^ 31 by omega)]
theorem nI_rg {x : Int32} {k : Nat} (hk : k < 2 ^ 31) (h0 : ¬ x < 0) (h1 : x ≤ nI k) : ∃ j, j ≤ k ∧ x = nI j := by
  obtain ⟨j, hj, rfl⟩ := nI_of h0
  refine ⟨j, ?_, rfl⟩
  rw [Int32.le_iff_toInt_le, nI_toInt hk, nI_toInt hj] at h1
  omega
section MQ
variable {d N K T : Nat} {tb : Nat → Int32} {fl : Nat → Nat → Bool} {nx : Nat → Nat → Option Nat} {σ : am_St} {y : lr_T} {care order : Bool} {al : Nat → Bool}
theorem mo_C.s0 (h : mo_C σ y care order al T N) (x : Int32) : mo_C (am_sI σ 16 0 x) y care order al T N := h.fm (is := [0]) (as := []) (mo_Fm.rf.sI (by rfl) _) ⟨rfl, rfl, rfl⟩ ⟨rfl, rfl⟩
theorem sp_11_fault {f1 f2 : Int32} (h4 : am_I σ 16 14 = f1) (h5 : am_I σ 16 15 = f2) (x : Int32) : am_C true ya_11_fault d [.ref (am_oid 16), .int x] σ (fun r τ => τ = am_sI σ 16 0 0 ∧ r = some (.int (if x = 0 then f1 else if x = 1 then f2 else -1))) := by
  refine am_enter rfl (by simp [Value.category]) (Nat.le_of_ble_eq_true rfl) ?_
  refine kb_11_fault_0 (kt := fun z => ?_) (kf := fun z => kb_11_fault_9 (k := kb_11_fault_29 ⟨rfl, by rw [if_pos z, am_I_sI, if_neg (by simp), h4]⟩))
  rw [if_neg z]
  exact kb_11_fault_16 (kt := fun w => kb_11_fault_28 (k := kb_11_fault_29 ⟨rfl, by rw [if_neg w]⟩)) (kf := fun w => kb_11_fault_21 (k := kb_11_fault_29 ⟨rfl, by rw [if_pos w, am_I_sI, if_neg (by simp), h5]⟩))
theorem sp_11_is (hW : mo_Wo σ N K T tb fl nx) (h : mo_C σ y care order al T N) (x1 x2 : Int32) : am_C true ya_11_is (d + 2) [.ref (am_oid 16), .int x1, .int x2] σ (fun r τ => τ = am_sI σ 16 0 0 ∧ r = some (.int (v_is N K tb fl nx y x1 x2))) := by
  have hN := hW.1
  have hW0 := hW.s0 0
  have h0 := h.s0 0
  refine am_enter rfl (by simp [Value.category]) (Nat.le_of_ble_eq_true rfl) ?_
  refine kb_11_is_0 (hC := sp_11_isState hW0 x1) (k := fun r τ hr => ?_)
  obtain ⟨hτ, rfl⟩ := hr
  rw [← hτ] at hW0 h0 ⊢
  rcases am_ix_cases N (by omega) x1 with ⟨s, hs, rfl, e, -, -⟩ | ⟨e, -⟩
  · have eV : v_is N K tb fl nx y (nI s) x2 = v_sw 6 (fun q => if q < 4 then am_bI (fl s q) else if q = 4 then am_bI (tr_hd y.2.1.1 y.2.1.2 (tb s)) else if q = 5 then am_oI (-2) (sm_find y.1.2.2.1 y.1.1 s) else nI (nx_cn nx K s)) x2 := by unfold v_is; rw [e]
    rw [eV, e]
    have cs : (nI s).toNatClampNeg = s := nI_clamp (by omega)
    have vs : vp_in (nI s) 600 := vp_in_nI (by omega) (by omega)
    obtain ⟨e1, e2, e3, e4, e5⟩ := hW0.2.2.2.2.2.2.1 s hs
    refine kb_11_is_10 (kt := fun _ => ?_) (kf := fun z => absurd z (show ¬ am_bI true = 0 by decide))
    refine kb_11_is_15 (k0 := fun z => ?_) (k1 := fun z => ?_) (k2 := fun z => ?_) (k3 := fun z => ?_) (k4 := fun z => ?_) (k5 := fun z => ?_) (k6 := fun z => ?_) (kd := fun z => kb_11_is_162 ⟨rfl, by unfold v_sw; rw [if_pos z]⟩)
    · subst z
      refine kb_11_is_60 (hi0 := vs) (kt := fun w => kb_11_is_73 (k := kb_11_is_74 ⟨rfl, ?_⟩)) (kf := fun w => kb_11_is_69 (k := kb_11_is_74 ⟨rfl, ?_⟩))
      · rw [cs, e2, am_bI_0] at w
        show some (Value.int 0) = some (.int (am_bI (fl s 0)))
        rw [w]; rfl
      · rw [cs, e2, am_bI_0] at w
        have w' : fl s 0 = true := by simpa using w
        show some (Value.int 1) = some (.int (am_bI (fl s 0)))
        rw [w']; rfl
    · subst z
      refine kb_11_is_75 (hi0 := vs) (kt := fun w => kb_11_is_88 (k := kb_11_is_89 ⟨rfl, ?_⟩)) (kf := fun w => kb_11_is_84 (k := kb_11_is_89 ⟨rfl, ?_⟩))
      · rw [cs, e3, am_bI_0] at w
        show some (Value.int 0) = some (.int (am_bI (fl s 1)))
        rw [w]; rfl
      · rw [cs, e3, am_bI_0] at w
        have w' : fl s 1 = true := by simpa using w
        show some (Value.int 1) = some (.int (am_bI (fl s 1)))
        rw [w']; rfl
    · subst z
      refine kb_11_is_90 (hi0 := vs) (kt := fun w => kb_11_is_103 (k := kb_11_is_104 ⟨rfl, ?_⟩)) (kf := fun w => kb_11_is_99 (k := kb_11_is_104 ⟨rfl, ?_⟩))
      · rw [cs, e4, am_bI_0] at w
        show some (Value.int 0) = some (.int (am_bI (fl s 2)))
        rw [w]; rfl
      · rw [cs, e4, am_bI_0] at w
        have w' : fl s 2 = true := by simpa using w
        show some (Value.int 1) = some (.int (am_bI (fl s 2)))
        rw [w']; rfl
    · subst z
      refine kb_11_is_105 (hi0 := vs) (kt := fun w => kb_11_is_118 (k := kb_11_is_119 ⟨rfl, ?_⟩)) (kf := fun w => kb_11_is_114 (k := kb_11_is_119 ⟨rfl, ?_⟩))
      · rw [cs, e5, am_bI_0] at w
        show some (Value.int 0) = some (.int (am_bI (fl s 3)))
        rw [w]; rfl
      · rw [cs, e5, am_bI_0] at w
        have w' : fl s 3 = true := by simpa using w
        show some (Value.int 1) = some (.int (am_bI (fl s 3)))
        rw [w']; rfl
    · subst z
      refine kb_11_is_120 (hC := sp_11_isHeld h0.2.1 (show s < 600 by omega) e1) (k := fun r τ' hr => ?_)
      obtain ⟨rfl, rfl⟩ := hr
      refine kb_11_is_125 (kt := fun w => kb_11_is_132 (k := kb_11_is_133 ⟨rfl, ?_⟩)) (kf := fun w => kb_11_is_128 (k := kb_11_is_133 ⟨rfl, ?_⟩))
      · rw [am_bI_0] at w
        show some (Value.int 0) = some (.int (am_bI (tr_hd y.2.1.1 y.2.1.2 (tb s))))
        rw [w]; rfl
      · rw [am_bI_0] at w
        have w' : tr_hd y.2.1.1 y.2.1.2 (tb s) = true := by simpa using w
        show some (Value.int 1) = some (.int (am_bI (tr_hd y.2.1.1 y.2.1.2 (tb s))))
        rw [w']; rfl
    · subst z
      have hP := h0.1.1.1
      rcases h0.1.2.2.find (s := s) (by omega) with ⟨i, a1, a2, a3, a4⟩ | ⟨a1, a2, a3⟩
      · refine kb_11_is_134 (hi0 := vs) (kt := fun _ => kb_11_is_149 (hi0 := vs) (k := kb_11_is_155 ⟨rfl, ?_⟩)) (kf := fun z => absurd (by rw [cs, a3] at z; exact z) (nI_neg1 i (by omega)))
        rw [cs, a3]
        show some (Value.int (nI i)) = some (.int (am_oI (-2) (sm_find y.1.2.2.1 y.1.1 s)))
        rw [a4]; rfl
      · refine kb_11_is_134 (hi0 := vs) (kt := fun z => absurd (by rw [cs, a1]) z) (kf := fun _ => kb_11_is_144 (k := kb_11_is_155 ⟨rfl, ?_⟩))
        show some (Value.int (-2)) = some (.int (am_oI (-2) (sm_find y.1.2.2.1 y.1.1 s)))
        rw [a3]; rfl
    · subst z
      refine kb_11_is_156 (hC := sp_11_stepsFrom hW0 hs) (k := fun r τ' hr => ?_)
      obtain ⟨rfl, rfl⟩ := hr
      exact kb_11_is_161 ⟨rfl, rfl⟩
  · have eV : v_is N K tb fl nx y x1 x2 = -1 := by unfold v_is; rw [e]
    rw [eV, e]
    exact kb_11_is_10 (kt := fun z => absurd rfl z) (kf := fun _ => kb_11_is_13 ⟨rfl, rfl⟩)
theorem sp_11_next (hW : mo_Wo σ N K T tb fl nx) (x1 x2 : Int32) : am_C true ya_11_next (d + 1) [.ref (am_oid 16), .int x1, .int x2] σ (fun r τ => τ = am_sI σ 16 0 0 ∧ r = some (.int (v_next N K nx x1 x2))) := by
  have hN := hW.1
  have hK := hW.2.1
  have hW0 := hW.s0 0
  refine am_enter rfl (by simp [Value.category]) (Nat.le_of_ble_eq_true rfl) ?_
  refine kb_11_next_0 (hC := sp_11_isState hW0 x1) (k := fun r τ hr => ?_)
  obtain ⟨hτ, rfl⟩ := hr
  rw [← hτ] at hW0 ⊢
  have w5 := hW0.2.2.2.2.1
  rcases am_ix_cases N (by omega) x1 with ⟨s, hs, rfl, e, -, -⟩ | ⟨e, -⟩
  · have eV : v_next N K nx (nI s) x2 = match am_ix K x2 with | none => -1 | some k => am_oI (-2) (nx s k) := by unfold v_next; rw [e]; rfl
    rw [eV, e]
    refine kb_11_next_10 (kt := fun z => absurd z (show ¬ am_bI true = 0 by decide)) (kf := fun _ => ?_)
    rcases am_ix_cases K (by omega) x2 with ⟨k, hk, rfl, e2, z1, z2⟩ | ⟨e2, z⟩
    · rw [e2]
      refine kb_11_next_13 (kt := fun z => absurd z z1) (kf := fun _ => ?_)
      refine kb_11_next_17 (kt := fun _ => ?_) (kf := fun z => absurd (by rw [w5]; exact nI_lt hk (by omega)) z)
      obtain ⟨g1, g2⟩ := hW0.2.2.2.2.2.2.2 s hs k hk
      have eT : am_A τ 16 23 (8 * nI s + nI k).toNatClampNeg = am_oI (-1) (nx s k) := by rw [am_ix8', nI_clamp (by omega)]; exact g1
      refine kb_11_next_29 (hi0 := by rw [am_ix8']; exact vp_in_nI (by omega) (by omega)) (kt := fun z => kb_11_next_51 (k := kb_11_next_52 ⟨rfl, ?_⟩)) (kf := fun z => kb_11_next_46 (k := kb_11_next_52 ⟨rfl, ?_⟩))
      · rw [eT] at z ⊢
        show _ = some (Value.int (am_oI (-2) (nx s k)))
        cases hn : nx s k with
        | none => rw [hn] at z; exact absurd rfl z
        | some t => rfl
      · rw [eT, am_oI_m1 g2 hN] at z
        show _ = some (Value.int (am_oI (-2) (nx s k)))
        rw [z]; rfl
    · rw [e2]
      refine kb_11_next_13 (kt := fun _ => kb_11_next_27 ⟨rfl, rfl⟩) (kf := fun y1 => ?_)
      refine kb_11_next_17 (kt := fun y2 => ?_) (kf := fun _ => kb_11_next_27 ⟨rfl, rfl⟩)
      exfalso
      rw [w5] at y2
      rcases z with z | z
      · exact y1 z
      · have a := Int32.lt_iff_toInt_lt.mp y2
        have b := Int32.le_iff_toInt_le.mp z
        omega
  · have eV : v_next N K nx x1 x2 = -1 := by unfold v_next; rw [e]
    rw [eV, e]
    exact kb_11_next_10 (kt := fun _ => kb_11_next_27 ⟨rfl, rfl⟩) (kf := fun z => absurd rfl z)
theorem sp_11_holds (hW : mo_Wo σ N K T tb fl nx) (x1 x2 : Int32) : am_C true ya_11_holds (d + 1) [.ref (am_oid 16), .int x1, .int x2] σ (fun r τ => τ = am_sI σ 16 0 0 ∧ r = some (.int (v_holds N T tb x1 x2))) := by
  have hN := hW.1
  have hT := hW.2.2.1
  have hW0 := hW.s0 0
  refine am_enter rfl (by simp [Value.category]) (Nat.le_of_ble_eq_true rfl) ?_
  refine kb_11_holds_0 (hC := sp_11_isTest hW0 x1) (k := fun r τ hr => ?_)
  obtain ⟨hτ, rfl⟩ := hr
  rw [← hτ] at hW0 ⊢
  rcases am_ix_cases T (by omega) x1 with ⟨t, ht, rfl, e, -, -⟩ | ⟨e, -⟩
  · have eV : v_holds N T tb (nI t) x2 = match am_ix N x2 with | none => -1 | some s => am_bI (bt (tb s) t) := by unfold v_holds; rw [e]; rfl
    rw [eV, e]
    refine kb_11_holds_10 (kt := fun z => absurd z (show ¬ am_bI true = 0 by decide)) (kf := fun _ => ?_)
    refine kb_11_holds_13 (hC := sp_11_isState hW0 x2) (k := fun r τ' hr => ?_)
    obtain ⟨rfl, rfl⟩ := hr
    rcases am_ix_cases N (by omega) x2 with ⟨s, hs, rfl, e2, -, -⟩ | ⟨e2, -⟩
    · rw [e2]
      refine kb_11_holds_18 (kf := fun _ => ?_) (kt := fun z => absurd z (show ¬ am_bI true = 0 by decide))
      refine kb_11_holds_21 (hi0 := vp_in_nI (by omega) (by omega)) (k := kb_11_holds_35 ⟨rfl, ?_⟩)
      rw [nI_clamp (show s < 2 ^ 31 by omega), (hW0.2.2.2.2.2.2.1 s hs).1, am_sh1b _ (show t < 32 by omega)]
    · rw [e2]
      exact kb_11_holds_18 (kf := fun z => absurd rfl z) (kt := fun _ => kb_11_holds_34 (k := kb_11_holds_35 ⟨rfl, rfl⟩))
  · have eV : v_holds N T tb x1 x2 = -1 := by unfold v_holds; rw [e]
    rw [eV, e]
    exact kb_11_holds_10 (kt := fun _ => kb_11_holds_34 (k := kb_11_holds_35 ⟨rfl, rfl⟩)) (kf := fun z => absurd rfl z)
theorem sp_11_learn (hW : mo_Wo σ N K T tb fl nx) (h : mo_C σ y care order al T N) (x : Int32) : am_C true ya_11_learn (d + 24) [.ref (am_oid 16), .int x] σ (fun r τ => r = some (.int (v_learn N K T tb fl nx al care order y x).2) ∧ mo_C τ (v_learn N K T tb fl nx al care order y x).1 care order al T N ∧ mo_PF σ τ) := by
  have hW0 := hW.s0 0
  have h0 := h.s0 0
  have F0 : mo_PF σ (am_sI σ 16 0 0) := mo_Fm.rf.sI (by rfl) _
  refine am_enter rfl (by simp [Value.category]) (Nat.le_of_ble_eq_true rfl) ?_
  have out : (x < 1 ∨ ¬ x ≤ 100) → am_T true ya_11_learn (d + 24) (fun r τ => r = some (.int (v_learn N K T tb fl nx al care order y x).2) ∧ mo_C τ (v_learn N K T tb fl nx al care order y x).1 care order al T N ∧ mo_PF σ τ) 16 [some (.ref (am_oid 16)), some (.int x)] [] (am_sI σ 16 0 0) := fun z => by
    have eV : v_learn N K T tb fl nx al care order y x = (y, -1) := by unfold v_learn; rw [if_pos z]
    rw [eV]
    exact kb_11_learn_16 (k := kb_11_learn_25 ⟨rfl, h0, F0⟩)
  refine kb_11_learn_0 (kt := fun z => out (Or.inl z)) (kf := fun z1 => ?_)
  refine kb_11_learn_10 (kt := fun z2 => ?_) (kf := fun z => out (Or.inr z))
  have z0 : ¬ x < 0 := fun z => z1 (by
    rw [Int32.lt_iff_toInt_lt] at z ⊢
    have : (0 : Int32).toInt = 0 := rfl
    have : (1 : Int32).toInt = 1 := rfl
    omega)
  obtain ⟨j, hj, rfl⟩ := nI_rg (k := 100) (by decide) z0 z2
  have eV : v_learn N K T tb fl nx al care order y (nI j) = ((lr_rds N K T tb fl nx al care order j y).1, nI (lr_rds N K T tb fl nx al care order j y).2) := by
    unfold v_learn
    rw [if_neg (fun z => z.elim z1 (fun z => z z2)), nI_clamp (by omega)]
  rw [eV]
  refine kb_11_learn_20 (hC := sp_11_rounds hj h0 hW0) (k := fun r τ hr => ?_)
  obtain ⟨rfl, C1, F1⟩ := hr
  exact kb_11_learn_25 ⟨rfl, C1, F0.tr (F1.fm.wid (by rfl) (by rfl))⟩
theorem sp_11_ways (h : mo_C σ y care order al T N) (x1 x2 : Int32) : am_C true ya_11_ways d [.ref (am_oid 16), .int x1, .int x2] σ (fun r τ => r = some (.int (v_ways care order x1 x2).2.2) ∧ mo_C τ y (v_ways care order x1 x2).1 (v_ways care order x1 x2).2.1 al T N ∧ mo_Fm [0, 28, 29] [] σ τ) := by
  have h0 := h.s0 0
  have F0 : mo_Fm [0, 28, 29] [] σ (am_sI σ 16 0 0) := mo_Fm.rf.sI (by rfl) _
  refine am_enter rfl (by simp [Value.category]) (Nat.le_of_ble_eq_true rfl) ?_
  have out : (x1 < 0 ∨ 1 < x1 ∨ x2 < 0 ∨ 1 < x2) → am_T true ya_11_ways d (fun r τ => r = some (.int (v_ways care order x1 x2).2.2) ∧ mo_C τ y (v_ways care order x1 x2).1 (v_ways care order x1 x2).2.1 al T N ∧ mo_Fm [0, 28, 29] [] σ τ) 23 [some (.ref (am_oid 16)), some (.int x1), some (.int x2), none] [] (am_sI σ 16 0 0) := fun z => by
    have eV : v_ways care order x1 x2 = (care, order, -1) := by unfold v_ways v_way; rw [if_pos z]
    rw [eV]
    exact kb_11_ways_23 ⟨rfl, h0, F0⟩
  refine kb_11_ways_0 (kt := fun z => out (Or.inl z)) (kf := fun z1 => ?_)
  refine kb_11_ways_9 (kt := fun z => out (Or.inr (Or.inl z))) (kf := fun z2 => ?_)
  refine kb_11_ways_14 (kt := fun z => out (Or.inr (Or.inr (Or.inl z)))) (kf := fun z3 => ?_)
  refine kb_11_ways_18 (kt := fun z4 => ?_) (kf := fun z => out (Or.inr (Or.inr (Or.inr ?_))))
  · have z4' : ¬ 1 < x2 := fun z => by
      rw [Int32.lt_iff_toInt_lt] at z
      rw [Int32.le_iff_toInt_le] at z4
      omega
    have eV : v_ways care order x1 x2 = (decide (x1 = 1), decide (x2 = 1), 2 * am_bI care + am_bI order) := by
      unfold v_ways v_way
      rw [if_neg (fun z => z.elim z1 (fun z => z.elim z2 (fun z => z.elim z3 z4')))]
    rw [eV]
    obtain ⟨g1, g2, g3, g4, g5, g6, g7, g8, g9, g10⟩ := h0
    refine kb_11_ways_25 (hq := ⟨by rw [g8, g9], ⟨g1, g2, g3, g4, g5, g6, g7, ?_, ?_, fun t ht => ?_⟩, (F0.sI (by rfl) _).sI (by rfl) _⟩)
    · rw [am_I_sI, if_neg (by simp), am_I_sI, if_pos ⟨rfl, rfl⟩]
      exact v_way_1 z1 z2
    · rw [am_I_sI, if_pos ⟨rfl, rfl⟩]
      exact v_way_1 z3 z4'
    · rw [am_I_sI, if_neg (by simp), am_I_sI, if_neg (by simp)]
      exact g10 t ht
  · rw [Int32.lt_iff_toInt_lt]
    rw [Int32.le_iff_toInt_le] at z
    omega
theorem sp_11_ended (h : mo_C σ y care order al T N) : am_C true ya_11_ended d [.ref (am_oid 16)] σ (fun r τ => τ = am_sI σ 16 0 0 ∧ r = some (.int y.2.2.1)) := by
  exact am_enter rfl (by simp [Value.category]) (Nat.le_of_ble_eq_true rfl) (kb_11_ended_0 ⟨rfl, by rw [h.2.2.1]⟩)
theorem sp_11_brought (h : mo_C σ y care order al T N) (x : Int32) : am_C true ya_11_brought d [.ref (am_oid 16), .int x] σ (fun r τ => τ = am_sI σ 16 0 0 ∧ r = some (.int (v_brought y x))) := by
  have h0 := h.s0 0
  refine am_enter rfl (by simp [Value.category]) (Nat.le_of_ble_eq_true rfl) ?_
  have out : (x < 0 ∨ ¬ x ≤ 2) → am_T true ya_11_brought d (fun r τ => τ = am_sI σ 16 0 0 ∧ r = some (.int (v_brought y x))) 14 [some (.ref (am_oid 16)), some (.int x)] [] (am_sI σ 16 0 0) := fun z => by
    have eV : v_brought y x = -1 := by unfold v_brought; exact v_sw_o (k := 2) rfl (by decide) z
    rw [eV]
    exact kb_11_brought_14 (k := kb_11_brought_26 ⟨rfl, rfl⟩)
  refine kb_11_brought_0 (kt := fun z => out (Or.inl z)) (kf := fun z1 => ?_)
  refine kb_11_brought_9 (kt := fun z2 => ?_) (kf := fun z => out (Or.inr z))
  obtain ⟨j, hj, rfl⟩ := nI_rg (k := 2) (by decide) z1 z2
  have e5 : (5 : Int32) + nI j = nI (5 + j) := by rw [show (5 : Int32) = nI 5 from rfl, nI_add]
  refine kb_11_brought_18 (hi0 := by rw [e5]; exact vp_in_nI (by omega) (by omega)) (k := kb_11_brought_26 ⟨rfl, ?_⟩)
  have eV : v_brought y (nI j) = if j = 0 then y.2.2.2.2.1 else if j = 1 then y.2.2.2.2.2.1 else y.2.2.2.2.2.2 := by unfold v_brought; exact v_sw_i (k := 2) rfl (by decide) hj
  rw [eV, e5, nI_clamp (show 5 + j < 2 ^ 31 by omega)]
  obtain ⟨-, -, -, -, c5, c6, c7, -⟩ := h0
  rcases (show j = 0 ∨ j = 1 ∨ j = 2 by omega) with rfl | rfl | rfl
  · rw [c5]; rfl
  · rw [c6]; rfl
  · rw [c7]; rfl
theorem sp_11_pairsOf {q b i : Nat} {f : Nat → Nat} (h1 : am_A σ 16 25 1 = nI q) (hq : q ≤ 300) (hb : b ≤ 708) (hf : ∀ k, k < q → am_A σ 16 25 (b + k) = nI (f k) ∧ f k < 2 ^ 31) (hi : i < 2 ^ 31) : am_C true ya_11_pairsOf d [.ref (am_oid 16), .int (nI i), .int (nI b)] σ (fun r τ => τ = σ ∧ r = some (.int (nI (am_cn (fun k => f k == i) q)))) := by
  have loop : ∀ (j k : Nat), k + j = q → am_T true ya_11_pairsOf d (fun r τ => τ = σ ∧ r = some (.int (nI (am_cn (fun k => f k == i) q)))) 5 [some (.ref (am_oid 16)), some (.int (nI i)), some (.int (nI b)), some (.int (nI (am_cn (fun k => f k == i) k))), some (.int (nI k))] [] σ := by
    intro j
    induction j with
    | zero =>
      intro k hk
      have : k = q := by omega
      subst this
      exact kb_11_pairsOf_5 (kt := fun _ => kb_11_pairsOf_43 ⟨rfl, rfl⟩) (kf := fun z => absurd (by rw [h1]; exact nI_le (by omega) (by omega)) z)
    | succ j ih =>
      intro k hk
      obtain ⟨g1, g2⟩ := hf k (by omega)
      have eT : am_A σ 16 25 (nI b + nI k).toNatClampNeg = nI (f k) := by rw [nI_add, nI_clamp (by omega)]; exact g1
      have next := ih (k + 1) (by omega)
      rw [← nI_cn] at next
      refine kb_11_pairsOf_5 (kt := fun z => absurd z (by rw [h1]; exact nI_ge (by omega) (by omega))) (kf := fun _ => ?_)
      refine kb_11_pairsOf_16 (hi0 := by rw [nI_add]; exact vp_in_nI (by omega) (by omega)) (kt := fun z => ?_) (kf := fun z => ?_)
      · rw [eT] at z
        have e : (f k == i) = false := by
          cases c : (f k == i) with
          | false => rfl
          | true => exact absurd (by rw [beq_iff_eq.mp c]) z
        rw [e] at next
        refine kb_11_pairsOf_34 (k := kb_11_pairsOf_35 (k := ?_))
        rw [nI_1 k]; exact next
      · rw [eT] at z
        have e : (f k == i) = true := by rw [nI_inj g2 hi z]; simp
        rw [e] at next
        refine kb_11_pairsOf_30 (k := kb_11_pairsOf_35 (k := ?_))
        rw [nI_1 k]; exact next
  refine am_enter rfl (by simp [Value.category]) (Nat.le_of_ble_eq_true rfl) (kb_11_pairsOf_0 (k := ?_))
  have := loop q 0 (by omega)
  rw [show am_cn (fun k => f k == i) 0 = 0 from rfl, nI_0] at this
  exact this
theorem sp_11_point (h : mo_C σ y care order al T N) (x1 x2 : Int32) : am_C true ya_11_point (d + 2) [.ref (am_oid 16), .int x1, .int x2] σ (fun r τ => r = some (.int (v_point y x1 x2)) ∧ mo_Fm [0] [31] σ τ) := by
  have h0 := h.s0 0
  have F0 : mo_Fm [0] [31] σ (am_sI σ 16 0 0) := mo_Fm.rf.sI (by rfl) _
  obtain ⟨⟨P, q, st, td, fs, sn⟩, y2⟩ := y
  have hS : mo_Sm (am_sI σ 16 0 0) P q st td fs sn := h0.1.1
  obtain ⟨hP, hq, i0, i1, hpt, hE⟩ := id hS
  refine am_enter rfl (by simp [Value.category]) (Nat.le_of_ble_eq_true rfl) ?_
  rcases am_ix_cases P (by omega) x1 with ⟨i, hi, rfl, e, z1, z2⟩ | ⟨e, z⟩
  · have eV : v_point ((P, q, st, td, fs, sn), y2) (nI i) x2 = v_sw 4 (fun q' => if q' = 0 then nI (st i) else if q' = 1 then am_lb (lr_g (P, q, st, td, fs, sn) i) (lr_b (P, q, st, td, fs, sn) i) else if q' = 2 then nI (td i) else if q' = 3 then nI (am_cn (fun k => fs k == i) q) else nI (am_cn (fun k => sn k == i) q)) x2 := by unfold v_point; rw [e]
    rw [eV]
    refine kb_11_point_0 (kt := fun z => absurd z z1) (kf := fun _ => ?_)
    refine kb_11_point_9 (kt := fun _ => ?_) (kf := fun z => absurd (by rw [i0]; exact nI_lt hi (by omega)) z)
    have e8 : (8 : Int32) + nI i = nI (8 + i) := by rw [show (8 : Int32) = nI 8 from rfl, nI_add]
    have e208 : (208 : Int32) + nI i = nI (208 + i) := by rw [show (208 : Int32) = nI 208 from rfl, nI_add]
    refine kb_11_point_21 (k0 := fun z => ?_) (k1 := fun z => ?_) (k2 := fun z => ?_) (k3 := fun z => ?_) (k4 := fun z => ?_) (kd := fun z => kb_11_point_106 ⟨by unfold v_sw; rw [if_pos z], F0⟩)
    · subst z
      refine kb_11_point_56 (hi0 := by rw [e8]; exact vp_in_nI (by omega) (by omega)) (hq := ⟨?_, F0⟩)
      rw [e8, nI_clamp (show 8 + i < 2 ^ 31 by omega), (hpt i hi).1]; rfl
    · subst z
      refine kb_11_point_66 (hC := sp_11_labels hS) (k := fun r τ hr => ?_)
      obtain ⟨rfl, L, hτ, hL, -⟩ := hr
      refine kb_11_point_70 (hi0 := vp_in_nI (by omega) (by omega)) (hq := ⟨?_, by rw [hτ]; exact F0.sA (by rfl) _⟩)
      rw [nI_clamp (show i < 2 ^ 31 by omega), hτ, am_A_sA, if_pos ⟨rfl, rfl⟩, hL i hi]; rfl
    · subst z
      refine kb_11_point_77 (hi0 := by rw [e208]; exact vp_in_nI (by omega) (by omega)) (hq := ⟨?_, F0⟩)
      rw [e208, nI_clamp (show 208 + i < 2 ^ 31 by omega), (hpt i hi).2.2.1]; rfl
    · subst z
      refine kb_11_point_88 (hC := sp_11_pairsOf (b := 408) (f := fs) i1 hq (by decide) (fun k hk => ⟨(hE k hk).1, by have := (hE k hk).2.2.1; omega⟩) (show i < 2 ^ 31 by omega)) (k := fun r τ hr => ?_)
      obtain ⟨rfl, rfl⟩ := hr
      exact kb_11_point_96 ⟨rfl, F0⟩
    · subst z
      refine kb_11_point_97 (hC := sp_11_pairsOf (b := 708) (f := sn) i1 hq (by decide) (fun k hk => ⟨(hE k hk).2.1, by have := (hE k hk).2.2.2; omega⟩) (show i < 2 ^ 31 by omega)) (k := fun r τ hr => ?_)
      obtain ⟨rfl, rfl⟩ := hr
      exact kb_11_point_105 ⟨rfl, F0⟩
  · have eV : v_point ((P, q, st, td, fs, sn), y2) x1 x2 = -1 := by unfold v_point; rw [e]
    rw [eV]
    refine kb_11_point_0 (kt := fun _ => kb_11_point_19 ⟨rfl, F0⟩) (kf := fun y1 => ?_)
    refine kb_11_point_9 (kt := fun y2 => ?_) (kf := fun _ => kb_11_point_19 ⟨rfl, F0⟩)
    exfalso
    rw [i0] at y2
    rcases z with z | z
    · exact y1 z
    · have a := Int32.lt_iff_toInt_lt.mp y2
      have b := Int32.le_iff_toInt_le.mp z
      omega
theorem sp_11_pair (h : mo_C σ y care order al T N) (x1 x2 : Int32) : am_C true ya_11_pair d [.ref (am_oid 16), .int x1, .int x2] σ (fun r τ => τ = am_sI σ 16 0 0 ∧ r = some (.int (v_pair y x1 x2))) := by
  have h0 := h.s0 0
  obtain ⟨⟨P, q, st, td, fs, sn⟩, y2⟩ := y
  have hS : mo_Sm (am_sI σ 16 0 0) P q st td fs sn := h0.1.1
  obtain ⟨hP, hq, i0, i1, hpt, hE⟩ := id hS
  refine am_enter rfl (by simp [Value.category]) (Nat.le_of_ble_eq_true rfl) ?_
  rcases am_ix_cases q (by omega) x1 with ⟨i, hi, rfl, e, z1, z2⟩ | ⟨e, z⟩
  · have eV : v_pair ((P, q, st, td, fs, sn), y2) (nI i) x2 = if x2 = 0 then nI (fs i) else if x2 = 1 then nI (sn i) else -1 := by unfold v_pair; rw [e]
    rw [eV]
    have e4 : (408 : Int32) + nI i = nI (408 + i) := by rw [show (408 : Int32) = nI 408 from rfl, nI_add]
    have e7 : (708 : Int32) + nI i = nI (708 + i) := by rw [show (708 : Int32) = nI 708 from rfl, nI_add]
    refine kb_11_pair_0 (kt := fun z => absurd z z1) (kf := fun _ => ?_)
    refine kb_11_pair_9 (kt := fun z => absurd z (by rw [i1]; exact z2)) (kf := fun _ => ?_)
    refine kb_11_pair_19 (kt := fun z => kb_11_pair_28 ⟨rfl, ?_⟩) (kf := fun w1 => ?_)
    · rw [if_neg (fun c => by rw [c] at z; revert z; decide), if_neg (fun c => by rw [c] at z; revert z; decide)]
    refine kb_11_pair_23 (kt := fun w2 => ?_) (kf := fun z => kb_11_pair_28 ⟨rfl, ?_⟩)
    · obtain ⟨j, hj, rfl⟩ := nI_rg (k := 1) (by decide) w1 w2
      rcases (show j = 0 ∨ j = 1 by omega) with rfl | rfl
      · refine kb_11_pair_30 (kt := fun z => absurd rfl z) (kf := fun _ => kb_11_pair_38 (k := kb_11_pair_47 (hi0 := by rw [e4]; exact vp_in_nI (by omega) (by omega)) (hq := ⟨rfl, ?_⟩)))
        rw [e4, nI_clamp (show 408 + i < 2 ^ 31 by omega), (hE i hi).1]; rfl
      · refine kb_11_pair_30 (kf := fun z => absurd z (by decide)) (kt := fun _ => kb_11_pair_44 (k := kb_11_pair_47 (hi0 := by rw [e7]; exact vp_in_nI (by omega) (by omega)) (hq := ⟨rfl, ?_⟩)))
        rw [e7, nI_clamp (show 708 + i < 2 ^ 31 by omega), (hE i hi).2.1]; rfl
    · rw [if_neg (fun c => by rw [c] at z; revert z; decide), if_neg (fun c => by rw [c] at z; revert z; decide)]
  · have eV : v_pair ((P, q, st, td, fs, sn), y2) x1 x2 = -1 := by unfold v_pair; rw [e]
    rw [eV]
    refine kb_11_pair_0 (kt := fun _ => kb_11_pair_28 ⟨rfl, rfl⟩) (kf := fun y1 => ?_)
    refine kb_11_pair_9 (kt := fun _ => kb_11_pair_28 ⟨rfl, rfl⟩) (kf := fun y2 => ?_)
    exfalso
    rw [i1] at y2
    rcases z with z | z
    · exact y1 z
    · exact y2 z
theorem sp_11_comers {n w : Nat} {nd : Nat → Nat → Int32} (hW : mo_Wo σ N K T tb fl nx) (h : mo_Nd (am_A σ 16 25) n nd) (hw : w < n) : am_C true ya_11_comers (d + 1) [.ref (am_oid 16), .int (nI w)] σ (fun r τ => τ = σ ∧ r = some (.int (nI (am_cn (fun s => tr_lt nd (tb s) w 17 0) N)))) := by
  obtain ⟨w1, -, -, w4, -, -, w7, -⟩ := id hW
  obtain ⟨hn, -, -, hal⟩ := id h
  generalize hQ : (fun (r : Option Value) (τ : am_St) => τ = σ ∧ r = some (.int (nI (am_cn (fun s => tr_lt nd (tb s) w 17 0) N)))) = Q
  have walk : ∀ (a2 : Option Value) (s : Nat), s < N → ∀ (f i dd : Nat), 17 ≤ dd + f → dd < 2 ^ 31 → nd i 5 = nI dd → i < n → (∀ j, j < n → (j = w) = (tr_lt nd (tb s) w f i = true) → am_T true ya_11_comers (d + 1) Q 68 [some (.ref (am_oid 16)), some (.int (nI w)), a2, some (.int (nI s)), some (.int (nI j))] [] σ) → am_T true ya_11_comers (d + 1) Q 15 [some (.ref (am_oid 16)), some (.int (nI w)), a2, some (.int (nI s)), some (.int (nI i))] [] σ := by
    intro a2 s hs f
    induction f with
    | zero =>
      intro i dd hf hd h5 hi
      exfalso
      obtain ⟨dd', g1, g2, -⟩ := hal i hi
      rw [h5] at g2
      have := nI_inj hd (by omega) g2
      omega
    | succ f ih =>
      intro i dd hf hd h5 hi k
      have e : tr_lt nd (tb s) w (f + 1) i = if i = w then true else if nd i 0 = 2 then tr_lt nd (tb s) w f (tr_dn nd (tb s) i) else false := rfl
      rw [e] at k
      refine kb_11_comers_15 (kt := fun z => ?_) (kf := fun z => ?_)
      · have c := nI_inj (by omega) (by omega) z
        exact k i hi (by rw [if_pos c]; exact propext ⟨fun _ => rfl, fun _ => c⟩)
      · have c : ¬ i = w := fun c => z (by rw [c])
        rw [if_neg c] at k
        refine kb_11_comers_21 (hC := sp_11_nodeAt (f := 0) h hi (by decide)) (k := fun r τ hr => ?_)
        obtain ⟨rfl, rfl⟩ := hr
        refine kb_11_comers_28 (kt := fun z2 => ?_) (kf := fun z2 => ?_)
        · exact k i hi (by rw [if_neg z2]; exact propext ⟨fun c' => absurd c' c, fun c' => by cases c'⟩)
        · rw [if_pos z2] at k
          obtain ⟨dd', g1, g2, g3⟩ := hal i hi
          rcases g3 with g3 | g3 | ⟨-, t, yy, m, k1, k2, k3, k4, k5, k6, k7, k8, k9, k10⟩
          · rw [g3] at z2; exact absurd z2 (by decide)
          · rw [g3] at z2; exact absurd z2 (by decide)
          · have hdd : 17 ≤ (dd' + 1) + f := by
              rw [h5] at g2
              have := nI_inj hd (by omega) g2
              omega
            have dn : tr_dn nd (tb s) i = if bt (tb s) t = true then yy else m := by
              unfold tr_dn; rw [k2, k3, k4, nI_clamp (by omega), nI_clamp (by omega), nI_clamp (by omega)]
            refine kb_11_comers_32 (hi0 := vp_in_nI (by omega) (by omega)) (hC := sp_11_nodeAt (f := 1) h hi (by decide)) (k := fun r τ' hr => ?_)
            obtain ⟨rfl, rfl⟩ := hr
            refine kb_11_comers_48 (kt := fun c2 => ?_) (kf := fun c2 => ?_)
            · rw [nI_clamp (by omega), (w7 s hs).1, k2, am_sh1_1 _ (by omega)] at c2
              rw [dn, if_neg c2] at k
              refine kb_11_comers_59 (k := kb_11_comers_60 (hC := sp_11_nodeAt (f := 3) h hi (by decide)) (k := fun r τ'' hr => ?_))
              obtain ⟨rfl, rfl⟩ := hr
              refine kb_11_comers_63 (k := ?_)
              rw [k4]
              exact ih m (dd' + 1) hdd (by omega) k10 k8 k
            · rw [nI_clamp (by omega), (w7 s hs).1, k2, am_sh1_1 _ (by omega)] at c2
              rw [dn, if_pos c2] at k
              refine kb_11_comers_55 (k := kb_11_comers_60 (hC := sp_11_nodeAt (f := 2) h hi (by decide)) (k := fun r τ'' hr => ?_))
              obtain ⟨rfl, rfl⟩ := hr
              refine kb_11_comers_63 (k := ?_)
              rw [k3]
              exact ih yy (dd' + 1) hdd (by omega) k9 k6 k
  have loop : ∀ (j i : Nat), i + j = N → ∀ a4 : Option Value, am_T true ya_11_comers (d + 1) Q 4 [some (.ref (am_oid 16)), some (.int (nI w)), some (.int (nI (am_cn (fun s => tr_lt nd (tb s) w 17 0) i))), some (.int (nI i)), a4] [] σ := by
    intro j
    induction j with
    | zero =>
      intro i hi a4
      have : i = N := by omega
      subst this
      refine kb_11_comers_4 (kt := fun _ => kb_11_comers_88 ?_) (kf := fun z => absurd (by rw [w4]; exact nI_le (by omega) (by omega)) z)
      rw [← hQ]; exact ⟨rfl, rfl⟩
    | succ j ih =>
      intro i hi a4
      have next := fun a => ih (i + 1) (by omega) a
      simp only [← nI_cn] at next
      refine kb_11_comers_4 (kt := fun z => absurd z (by rw [w4]; exact nI_ge (by omega) (by omega))) (kf := fun _ => ?_)
      refine kb_11_comers_12 (k := ?_)
      obtain ⟨dd, g1, g2, -⟩ := hal 0 (by omega)
      have wk := walk (some (.int (nI (am_cn (fun s => tr_lt nd (tb s) w 17 0) i)))) i (by omega) 17 0 dd (by omega) (by omega) g2 (by omega)
      rw [nI_0] at wk
      refine wk (fun j' hj' hc => ?_)
      refine kb_11_comers_68 (kt := fun z => ?_) (kf := fun z => ?_)
      · have c : ¬ j' = w := fun c => z (by rw [c])
        have e : tr_lt nd (tb i) w 17 0 = false := by
          cases c2 : tr_lt nd (tb i) w 17 0 with
          | false => rfl
          | true => rw [c2] at hc; exact absurd (hc.mpr rfl) c
        rw [e] at next
        refine kb_11_comers_79 (k := kb_11_comers_80 (k := ?_))
        rw [nI_1 i]; exact next _
      · have c := nI_inj (by omega) (by omega) z
        have e : tr_lt nd (tb i) w 17 0 = true := hc.mp c
        rw [e] at next
        refine kb_11_comers_75 (k := kb_11_comers_80 (k := ?_))
        rw [nI_1 i]; exact next _
  refine am_enter rfl (by simp [Value.category]) (Nat.le_of_ble_eq_true rfl) (kb_11_comers_0 (k := ?_))
  have := loop N 0 (by omega) none
  rw [show am_cn (fun s => tr_lt nd (tb s) w 17 0) 0 = 0 from rfl, nI_0] at this
  exact this
theorem sp_11_node (hW : mo_Wo σ N K T tb fl nx) (h : mo_C σ y care order al T N) (x1 x2 : Int32) : am_C true ya_11_node (d + 2) [.ref (am_oid 16), .int x1, .int x2] σ (fun r τ => τ = am_sI σ 16 0 0 ∧ r = some (.int (v_node N tb y x1 x2))) := by
  have h0 := h.s0 0
  have hW0 := hW.s0 0
  have hNd := h0.2.1
  obtain ⟨n, hnn⟩ : ∃ n, n = y.2.1.1 := ⟨_, rfl⟩
  rw [← hnn] at hNd
  obtain ⟨hn, hI, hA, -⟩ := id hNd
  refine am_enter rfl (by simp [Value.category]) (Nat.le_of_ble_eq_true rfl) ?_
  rcases am_ix_cases n (by omega) x1 with ⟨i, hi, rfl, e, z1, z2⟩ | ⟨e, z⟩
  · have eV : v_node N tb y (nI i) x2 = v_sw 6 (fun q => if q < 6 then y.2.1.2 i q else nI (am_cn (fun s => tr_lt y.2.1.2 (tb s) i 17 0) N)) x2 := by unfold v_node; rw [← hnn, e]
    rw [eV]
    refine kb_11_node_0 (kt := fun z => absurd z z1) (kf := fun _ => ?_)
    refine kb_11_node_9 (kt := fun z => absurd z (by rw [hI]; exact z2)) (kf := fun _ => ?_)
    refine kb_11_node_19 (kt := fun z => kb_11_node_29 ⟨rfl, by rw [v_sw_o (m := 6) (k := 6) rfl (by decide) (Or.inl z)]⟩) (kf := fun w1 => ?_)
    refine kb_11_node_23 (kt := fun w2 => ?_) (kf := fun z => kb_11_node_29 ⟨rfl, by rw [v_sw_o (m := 6) (k := 6) rfl (by decide) (Or.inr z)]⟩)
    obtain ⟨j, hj, rfl⟩ := nI_rg (k := 6) (by decide) w1 w2
    rw [v_sw_i (m := 6) (k := 6) rfl (by decide) hj]
    refine kb_11_node_31 (kt := fun z => ?_) (kf := fun z => ?_)
    · have hj6 : j < 6 := by
        have : j ≠ 6 := fun c => z (by rw [c]; rfl)
        omega
      refine kb_11_node_45 (hC := sp_11_nodeAt hNd hi hj6) (k := fun r τ hr => ?_)
      obtain ⟨hτ, rfl⟩ := hr
      exact kb_11_node_51 ⟨hτ, by rw [if_pos hj6]⟩
    · have c : j = 6 := nI_inj (by omega) (by decide) z
      subst c
      refine kb_11_node_37 (hC := sp_11_comers hW0 hNd hi) (k := fun r τ hr => ?_)
      obtain ⟨hτ, rfl⟩ := hr
      exact kb_11_node_42 (k := kb_11_node_51 ⟨hτ, rfl⟩)
  · have eV : v_node N tb y x1 x2 = -1 := by unfold v_node; rw [← hnn, e]
    rw [eV]
    refine kb_11_node_0 (kt := fun _ => kb_11_node_29 ⟨rfl, rfl⟩) (kf := fun y1 => ?_)
    refine kb_11_node_9 (kt := fun _ => kb_11_node_29 ⟨rfl, rfl⟩) (kf := fun y2 => ?_)
    exfalso
    rw [hI] at y2
    rcases z with z | z
    · exact y1 z
    · exact y2 z
theorem sp_11_cost (hW : mo_Wo σ N K T tb fl nx) (h : mo_C σ y care order al T N) (x : Int32) : am_C true ya_11_cost (d + 2) [.ref (am_oid 16), .int x] σ (fun r τ => r = some (.int (v_cost T tb y x)) ∧ mo_Fm [0] [31, 34, 35] σ τ) := by
  have h0 := h.s0 0
  have hW0 := hW.s0 0
  have F0 : mo_Fm [0] [31, 34, 35] σ (am_sI σ 16 0 0) := mo_Fm.rf.sI (by rfl) _
  have hT := hW.2.2.1
  obtain ⟨⟨P, q, st, td, fs, sn⟩, y2⟩ := y
  have hS : mo_Sm (am_sI σ 16 0 0) P q st td fs sn := h0.1.1
  have hst : ∀ i, i < P → st i < N := h0.1.2.1
  obtain ⟨hP, hq, i0, i1, hpt, hE⟩ := id hS
  generalize hQ : (fun (r : Option Value) (τ : am_St) => r = some (.int (v_cost T tb ((P, q, st, td, fs, sn), y2) x)) ∧ mo_Fm [0] [31, 34, 35] σ τ) = Q
  refine am_enter rfl (by simp [Value.category]) (Nat.le_of_ble_eq_true rfl) ?_
  refine kb_11_cost_0 (hC := sp_11_isTest hW0 x) (k := fun r τ hr => ?_)
  obtain ⟨hτ, rfl⟩ := hr
  rw [← hτ] at hW0 h0 hS i0 i1 F0
  rcases am_ix_cases T (by omega) x with ⟨t, ht, rfl, e, -, -⟩ | ⟨e, -⟩
  · have eV : v_cost T tb ((P, q, st, td, fs, sn), y2) (nI t) = match ft_cost P q fs sn (ft_all P) (lr_g (P, q, st, td, fs, sn)) (lr_b (P, q, st, td, fs, sn)) (fun i => bt (tb (st i)) t) with | none => -2 | some c => nI c := by unfold v_cost; rw [e]; rfl
    rw [e]
    refine kb_11_cost_10 (kt := fun _ => ?_) (kf := fun z => absurd z (show ¬ am_bI true = 0 by decide))
    refine kb_11_cost_15 (hC := sp_11_labels hS) (k := fun r τ1 hr => ?_)
    obtain ⟨rfl, L, hτ1, hL, -⟩ := hr
    refine kb_11_cost_19 (k := ?_)
    have j0 : am_A τ1 16 25 0 = nI P := by rw [hτ1, am_A_sA, if_neg (by simp)]; exact i0
    rw [j0]
    have loop : ∀ (j i : Nat), i + j = P → ∀ G : Nat → Int32, (∀ k, k < i → G k = nI k) → am_T true ya_11_cost (d + 2) Q 28 [some (.ref (am_oid 16)), some (.int (nI t)), some (.int (nI P)), some (.int (nI i))] [] (am_sA τ1 16 34 G) := by
      intro j
      induction j with
      | zero =>
        intro i hi G hG
        have : i = P := by omega
        subst this
        refine kb_11_cost_28 (kt := fun _ => ?_) (kf := fun z => absurd (nI_le (by omega) (by omega)) z)
        have hS2 : mo_Sm (am_sA τ1 16 34 G) i q st td fs sn := hS.same (by rw [am_A_sA, if_neg (by simp), hτ1, am_A_sA, if_neg (by simp)])
        have g34 : am_A (am_sA τ1 16 34 G) 16 34 = G := by rw [am_A_sA, if_pos ⟨rfl, rfl⟩]
        have hEn : am_En (am_A (am_sA τ1 16 34 G) 16 34) 0 i i (ft_all i) := by rw [g34]; exact ft_all_En (by omega) hG
        refine kb_11_cost_46 (hC := sp_11_marks (u := 0) (v := i) hS2 hP hEn) (k := fun r τ2 hr => ?_)
        obtain ⟨rfl, M, hτ2, hM⟩ := hr
        have hS3 : mo_Sm τ2 i q st td fs sn := hS2.same (by rw [hτ2, am_A_sA, if_neg (by simp)])
        have k34 : am_A τ2 16 34 = am_A (am_sA τ1 16 34 G) 16 34 := by rw [hτ2, am_A_sA, if_neg (by simp)]
        have k31 : am_A τ2 16 31 = L := by rw [hτ2, am_A_sA, if_neg (by simp), am_A_sA, if_neg (by simp), hτ1, am_A_sA, if_pos ⟨rfl, rfl⟩]
        have k35 : am_A τ2 16 35 = M := by rw [hτ2, am_A_sA, if_pos ⟨rfl, rfl⟩]
        have k18 : am_A τ2 16 18 = am_A τ 16 18 := by rw [hτ2, am_A_sA, if_neg (by simp), am_A_sA, if_neg (by simp), hτ1, am_A_sA, if_neg (by simp)]
        have FF : mo_Fm [0] [31, 34, 35] σ τ2 := by rw [hτ2, hτ1]; exact ((F0.sA (by rfl) _).sA (by rfl) _).sA (by rfl) _
        refine kb_11_cost_52 (hC := sp_11_costOf (u := 0) (v := i) hS3 (show t < 16 by omega) hP (by rw [k34]; exact hEn) (by rw [k31]; exact hL) (by rw [k35]; exact hM)) (k := fun r τ3 hr => ?_)
        obtain ⟨rfl, rfl⟩ := hr
        have ec : ft_cost i q fs sn (ft_all i) (am_clo q fs sn (am_tg td 1 i)) (am_clo q sn fs (am_tg td 2 i)) (fun k => bt (am_A τ3 16 18 (st k)) t) = ft_cost i q fs sn (ft_all i) (lr_g (i, q, st, td, fs, sn)) (lr_b (i, q, st, td, fs, sn)) (fun k => bt (tb (st k)) t) :=
          ft_cost_congr (fun k hk => (hE k hk).2.2) (fun k hk => by rw [k18, (hW0.2.2.2.2.2.2.1 (st k) (hst k hk)).1])
        rw [ec]
        rw [← hQ, eV]
        cases hc : ft_cost i q fs sn (ft_all i) (lr_g (i, q, st, td, fs, sn)) (lr_b (i, q, st, td, fs, sn)) (fun k => bt (tb (st k)) t) with
        | none => exact kb_11_cost_59 (kt := fun z => absurd rfl z) (kf := fun _ => kb_11_cost_65 (k := kb_11_cost_71 ⟨rfl, FF⟩))
        | some c =>
          have hcb : c < 2 ^ 31 := by
            have := ft_cost_lt hP hq hc
            omega
          exact kb_11_cost_59 (kt := fun _ => kb_11_cost_70 (k := kb_11_cost_71 ⟨rfl, FF⟩)) (kf := fun z => absurd z (nI_neg1 c hcb))
      | succ j ih =>
        intro i hi G hG
        refine kb_11_cost_28 (kt := fun z => absurd z (nI_ge (by omega) (by omega))) (kf := fun _ => ?_)
        refine kb_11_cost_33 (hi0 := vp_in_nI (by omega) (by omega)) (k := ?_)
        rw [nI_clamp (show i < 2 ^ 31 by omega), nI_1, am_sA_sA, am_A_sA, if_pos ⟨rfl, rfl⟩]
        refine ih (i + 1) (by omega) _ (fun k hk => ?_)
        by_cases c : k = i
        · rw [c, upd_s]
        · rw [upd_n c]; exact hG k (by omega)
    have := loop P 0 (by omega) (am_A τ1 16 34) (fun k hk => absurd hk (Nat.not_lt_zero k))
    rw [am_sA_id, nI_0] at this
    exact this
  · have eV : v_cost T tb ((P, q, st, td, fs, sn), y2) x = -1 := by unfold v_cost; rw [e]
    rw [e]
    refine kb_11_cost_10 (kt := fun z => absurd rfl z) (kf := fun _ => kb_11_cost_13 ?_)
    rw [← hQ, eV]; exact ⟨rfl, F0⟩
theorem sp_11_count {nv ns nb tl : Nat} (hW : mo_Wo σ N K T tb fl nx) (h : mo_C σ y care order al T N) (v0 : am_A σ 16 3 0 = nI nv) (v1 : am_A σ 16 3 1 = nI ns) (v2 : am_A σ 16 3 2 = nI nb) (ht : am_I σ 16 2 = nI tl) (x : Int32) : am_C true ya_11_count d [.ref (am_oid 16), .int x] σ (fun r τ => τ = am_sI σ 16 0 0 ∧ r = some (.int (v_count nv ns nb K T tl y care order x))) := by
  have h0 := h.s0 0
  have hW0 := hW.s0 0
  have t0 : am_I (am_sI σ 16 0 0) 16 2 = nI tl := by rw [am_I_sI, if_neg (by simp)]; exact ht
  have b0 : am_A (am_sI σ 16 0 0) 16 3 0 = nI nv := v0
  have b1 : am_A (am_sI σ 16 0 0) 16 3 1 = nI ns := v1
  have b2 : am_A (am_sI σ 16 0 0) 16 3 2 = nI nb := v2
  have i0 := h0.1.1.2.2.1
  have i1 := h0.1.1.2.2.2.1
  have i2 := h0.2.1.2.1
  have i3 := h0.2.2.2.1
  have i28 := h0.2.2.2.2.2.2.2.1
  have i29 := h0.2.2.2.2.2.2.2.2.1
  refine am_enter rfl (by simp [Value.category]) (Nat.le_of_ble_eq_true rfl) ?_
  exact kb_11_count_0 (k0 := fun z => kb_11_count_68 ⟨rfl, by rw [b0, z]; rfl⟩) (k1 := fun z => kb_11_count_75 ⟨rfl, by rw [b1, z]; rfl⟩) (k2 := fun z => kb_11_count_82 ⟨rfl, by rw [b2, z]; rfl⟩) (k3 := fun z => kb_11_count_89 ⟨rfl, by rw [hW0.2.2.2.2.1, z]; rfl⟩) (k4 := fun z => kb_11_count_96 ⟨rfl, by rw [hW0.2.2.2.2.2.1, z]; rfl⟩) (k5 := fun z => kb_11_count_103 ⟨rfl, by rw [i0, z]; rfl⟩) (k6 := fun z => kb_11_count_110 ⟨rfl, by rw [i1, z]; rfl⟩) (k7 := fun z => kb_11_count_117 ⟨rfl, by rw [i2, z]; rfl⟩) (k8 := fun z => kb_11_count_124 ⟨rfl, by rw [i3, z]; rfl⟩) (k9 := fun z => kb_11_count_131 ⟨rfl, by rw [i28, z]; rfl⟩) (k10 := fun z => kb_11_count_136 ⟨rfl, by rw [i29, z]; rfl⟩) (k11 := fun z => kb_11_count_141 ⟨rfl, by rw [t0, z]; rfl⟩) (kd := fun z => kb_11_count_146 ⟨rfl, by unfold v_count v_sw; rw [if_pos z]⟩)
theorem sp_11_ifLearned (h : mo_C σ y care order al T N) (h30 : am_I σ 16 30 = -1) (hW : mo_Wo σ N K T tb fl nx) (x1 x2 x3 x4 : Int32) : am_C true ya_11_ifLearned (d + 25) [.ref (am_oid 16), .int x1, .int x2, .int x3, .int x4] σ (fun r τ => r = some (.int (v_if N K T tb fl nx x1 x2 x3 x4)) ∧ mo_C τ y care order al T N ∧ mo_PF σ τ) := by
  have h0 := h.s0 0
  have hW0 := hW.s0 0
  have hT := hW.2.2.1
  have F0 : mo_PF σ (am_sI σ 16 0 0) := mo_Fm.rf.sI (by rfl) _
  have g30 : am_I (am_sI σ 16 0 0) 16 30 = -1 := by rw [am_I_sI, if_neg (by simp)]; exact h30
  refine am_enter rfl (by simp [Value.category]) (Nat.le_of_ble_eq_true rfl) ?_
  have out : v_if N K T tb fl nx x1 x2 x3 x4 = -1 → am_T true ya_11_ifLearned (d + 25) (fun r τ => r = some (.int (v_if N K T tb fl nx x1 x2 x3 x4)) ∧ mo_C τ y care order al T N ∧ mo_PF σ τ) 37 [some (.ref (am_oid 16)), some (.int x1), some (.int x2), some (.int x3), some (.int x4)] [] (am_sI σ 16 0 0) := fun eV => by
    rw [eV]; exact kb_11_ifLearned_37 ⟨rfl, h0, F0⟩
  refine kb_11_ifLearned_0 (hC := sp_11_areWays x1 x2) (k := fun r τ hr => ?_)
  obtain ⟨hτ, rfl⟩ := hr
  rw [hτ]
  cases hw : v_way x1 x2 with
  | none => exact kb_11_ifLearned_10 (kt := fun _ => out (by unfold v_if; rw [hw])) (kf := fun z => absurd rfl z)
  | some c =>
    obtain ⟨r1, r2⟩ := v_way_some hw
    have eV : v_if N K T tb fl nx x1 x2 x3 x4 = if x4 < 0 ∨ ¬ x4 ≤ 3 then -1 else if x3 = -1 then lf_f (lf_y N K T tb fl nx c.1 c.2 none) x4.toNatClampNeg else match am_ix T x3 with | none => -1 | some t => lf_f (lf_y N K T tb fl nx c.1 c.2 (some t)) x4.toNatClampNeg := by unfold v_if; rw [hw]; rfl
    refine kb_11_ifLearned_10 (kt := fun z => absurd z (show ¬ am_bI true = 0 by decide)) (kf := fun _ => ?_)
    -- what is left once the test is known
    have go : ∀ w : Option Nat, (∀ t, w = some t → t < T) → x3 = am_oI (-1) w → (¬ (x4 < 0 ∨ ¬ x4 ≤ 3) → v_if N K T tb fl nx x1 x2 x3 x4 = lf_f (lf_y N K T tb fl nx c.1 c.2 w) x4.toNatClampNeg) → am_T true ya_11_ifLearned (d + 25) (fun r τ => r = some (.int (v_if N K T tb fl nx x1 x2 x3 x4)) ∧ mo_C τ y care order al T N ∧ mo_PF σ τ) 26 [some (.ref (am_oid 16)), some (.int x1), some (.int x2), some (.int x3), some (.int x4)] [] (am_sI σ 16 0 0) := by
      intro w hw' h3 hv
      refine kb_11_ifLearned_26 (kt := fun z => out (by rw [eV, if_pos (Or.inl z)])) (kf := fun w1 => ?_)
      refine kb_11_ifLearned_31 (kt := fun w2 => ?_) (kf := fun z => out (by rw [eV, if_pos (Or.inr z)]))
      have hv' := hv (fun z => z.elim w1 (fun z => z w2))
      obtain ⟨j, hj, e4⟩ := nI_rg (k := 3) (by decide) w1 w2
      rw [hv', r1, r2, h3, e4, nI_clamp (show j < 2 ^ 31 by omega)]
      refine kb_11_ifLearned_39 (hC := sp_11_tries h0 g30 hW0 c.1 c.2 hw' (show j < 4 by omega)) (k := fun r τ1 hr => ?_)
      obtain ⟨rfl, C1, F1⟩ := hr
      exact kb_11_ifLearned_48 ⟨rfl, C1, F0.tr (F1.fm.wid (by rfl) (by rfl))⟩
    refine kb_11_ifLearned_13 (kt := fun z => ?_) (kf := fun z => ?_)
    · exact go none (fun t ht => by cases ht) z (fun hn => by rw [eV, if_neg hn, if_pos z])
    · refine kb_11_ifLearned_18 (hC := sp_11_isTest hW0 x3) (k := fun r τ1 hr => ?_)
      obtain ⟨hτ1, rfl⟩ := hr
      rw [hτ1]
      rcases am_ix_cases T (by omega) x3 with ⟨t, ht, r3, e, -, -⟩ | ⟨e, -⟩
      · rw [e]
        refine kb_11_ifLearned_23 (kt := fun z => absurd z (show ¬ am_bI true = 0 by decide)) (kf := fun _ => ?_)
        exact go (some t) (fun t' ht' => by cases ht'; exact ht) r3 (fun hn => by rw [eV, if_neg hn, if_neg z, e])
      · rw [e]
        refine kb_11_ifLearned_23 (kf := fun z => absurd rfl z) (kt := fun _ => out ?_)
        rw [eV]
        by_cases c4 : x4 < 0 ∨ ¬ x4 ≤ 3
        · rw [if_pos c4]
        · rw [if_neg c4, if_neg z, e]
theorem sp_11_needed (h : mo_C σ y care order al T N) (h30 : am_I σ 16 30 = -1) (hW : mo_Wo σ N K T tb fl nx) (x1 x2 : Int32) : am_C true ya_11_needed (d + 25) [.ref (am_oid 16), .int x1, .int x2] σ (fun r τ => r = some (.int (v_needed N K T tb fl nx x1 x2)) ∧ mo_C τ y care order al T N ∧ mo_PF σ τ) := by
  have h0 := h.s0 0
  have hW0 := hW.s0 0
  have hT := hW.2.2.1
  have F0 : mo_PF σ (am_sI σ 16 0 0) := mo_Fm.rf.sI (by rfl) _
  have g30 : am_I (am_sI σ 16 0 0) 16 30 = -1 := by rw [am_I_sI, if_neg (by simp)]; exact h30
  refine am_enter rfl (by simp [Value.category]) (Nat.le_of_ble_eq_true rfl) ?_
  refine kb_11_needed_0 (hC := sp_11_areWays x1 x2) (k := fun r τ hr => ?_)
  obtain ⟨hτ, rfl⟩ := hr
  rw [hτ]
  cases hw : v_way x1 x2 with
  | none =>
    have eV : v_needed N K T tb fl nx x1 x2 = -1 := by unfold v_needed; rw [hw]
    rw [eV]
    exact kb_11_needed_10 (kf := fun _ => kb_11_needed_13 ⟨rfl, h0, F0⟩) (kt := fun z => absurd rfl z)
  | some c =>
    obtain ⟨r1, r2⟩ := v_way_some hw
    obtain ⟨p, hp⟩ : ∃ p : Nat → Bool, p = fun t => !decide (lf_f (lf_y N K T tb fl nx c.1 c.2 (some t)) 0 = 1) := ⟨_, rfl⟩
    have eV : v_needed N K T tb fl nx x1 x2 = nI (am_cn p T) := by unfold v_needed; rw [hw, hp]
    rw [eV, r1, r2]
    have loop : ∀ (j i : Nat) (τ : am_St), i + j = T → mo_C τ y care order al T N → mo_PF σ τ → am_T true ya_11_needed (d + 25) (fun r τ => r = some (.int (nI (am_cn p T))) ∧ mo_C τ y care order al T N ∧ mo_PF σ τ) 20 [some (.ref (am_oid 16)), some (.int (am_bI c.1)), some (.int (am_bI c.2)), some (.int (nI (am_cn p i))), some (.int (nI i))] [] τ := by
      intro j
      induction j with
      | zero =>
        intro i τ hi C F
        have : i = T := by omega
        subst this
        have w6 : am_A τ 16 3 4 = nI i := by rw [F.2 3 rfl]; exact hW.2.2.2.2.2.1
        exact kb_11_needed_20 (kt := fun _ => kb_11_needed_58 ⟨rfl, C, F⟩) (kf := fun z => absurd (by rw [w6]; exact nI_le (by omega) (by omega)) z)
      | succ j ih =>
        intro i τ hi C F
        have hWt : mo_Wo τ N K T tb fl nx := hW.fm F rfl (fun k hk => by rcases hk with rfl | rfl | rfl | rfl | rfl | rfl | rfl <;> rfl)
        have w6 : am_A τ 16 3 4 = nI T := hWt.2.2.2.2.2.1
        have t30 : am_I τ 16 30 = -1 := by rw [F.1 30 rfl]; exact h30
        refine kb_11_needed_20 (kt := fun z => absurd z (by rw [w6]; exact nI_ge (by omega) (by omega))) (kf := fun _ => ?_)
        refine kb_11_needed_31 (hC := sp_11_tries (w := some i) C t30 hWt c.1 c.2 (fun t ht => by cases ht; omega) (show 0 < 4 by decide)) (k := fun r τ1 hr => ?_)
        obtain ⟨rfl, C1, F1⟩ := hr
        have next := ih (i + 1) τ1 (by omega) C1 (F.tr (F1.fm.wid (by rfl) (by rfl)))
        rw [← nI_cn] at next
        refine kb_11_needed_41 (kt := fun z => ?_) (kf := fun z => ?_)
        · have e : p i = true := by rw [hp]; show (!decide _) = true; rw [decide_eq_false z]; rfl
          rw [e] at next
          refine kb_11_needed_49 (k := kb_11_needed_50 (k := ?_))
          rw [nI_1 i]; exact next
        · have e : p i = false := by rw [hp]; show (!decide _) = false; rw [decide_eq_true z]; rfl
          rw [e] at next
          refine kb_11_needed_45 (k := kb_11_needed_50 (k := ?_))
          rw [nI_1 i]; exact next
    refine kb_11_needed_10 (kf := fun z => absurd z (show ¬ am_bI true = 0 by decide)) (kt := fun _ => kb_11_needed_15 (k := ?_))
    have := loop T 0 (am_sI σ 16 0 0) (by omega) h0 F0
    rw [show am_cn p 0 = 0 from rfl, nI_0] at this
    exact this
end MQ
