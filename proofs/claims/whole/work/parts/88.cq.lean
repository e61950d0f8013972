/-! the class's queries: fault, is, next, holds, many, ended, brought, point, pair, node, cost, count, together, bySteps, trace, run, learn -/
def v_sw (m : Int) (f : Nat → Int32) (x : Int32) : Int32 := if x.toInt < 0 ∨ m < x.toInt then -1 else f x.toNatClampNeg
def v_is (N K : Nat) (tb : Nat → Int32) (fl : Nat → Nat → Bool) (nx : Nat → Nat → Option Nat) (y : lr_T) (x1 x2 : Int32) : Int32 := match am_ix N x1 with
  | none => -1
  | some s => v_sw 6 (fun q => if q < 4 then am_bI (fl s q) else if q = 4 then am_bI (tr_hd y.2.1.1 y.2.1.2 (tb s)) else if q = 5 then am_oI (-2) (sm_find y.1.2.2.1 y.1.1 s) else nI (nx_cn nx K s)) x2
def v_next (N K : Nat) (nx : Nat → Nat → Option Nat) (x1 x2 : Int32) : Int32 := match am_ix N x1 with
  | none => -1
  | some s => match am_ix K x2 with
    | none => -1
    | some k => am_oI (-2) (nx s k)
def v_holds (N T : Nat) (tb : Nat → Int32) (x1 x2 : Int32) : Int32 := match am_ix T x1 with
  | none => -1
  | some t => match am_ix N x2 with
    | none => -1
    | some s => am_bI (bt (tb s) t)
def v_many (N : Nat) (tb : Nat → Int32) (fl : Nat → Nat → Bool) (y : lr_T) (x : Int32) : Int32 := if x < 0 ∨ ¬ x ≤ 5 then -1 else nI (am_cn (mn_p tb fl y.2.1.1 y.2.1.2 x) N)
def v_brought (y : lr_T) (x : Int32) : Int32 := v_sw 2 (fun q => if q = 0 then y.2.2.2.2.1 else if q = 1 then y.2.2.2.2.2.1 else y.2.2.2.2.2.2) x
noncomputable def v_point (y : lr_T) (x1 x2 : Int32) : Int32 := match am_ix y.1.1 x1 with
  | none => -1
  | some i => v_sw 4 (fun q => if q = 0 then nI (y.1.2.2.1 i) else if q = 1 then am_lb (lr_g y.1 i) (lr_b y.1 i) else if q = 2 then nI (y.1.2.2.2.1 i) else if q = 3 then nI (am_cn (fun k => y.1.2.2.2.2.1 k == i) y.1.2.1) else nI (am_cn (fun k => y.1.2.2.2.2.2 k == i) y.1.2.1)) x2
def v_pair (y : lr_T) (x1 x2 : Int32) : Int32 := match am_ix y.1.2.1 x1 with
  | none => -1
  | some k => if x2 = 0 then nI (y.1.2.2.2.2.1 k) else if x2 = 1 then nI (y.1.2.2.2.2.2 k) else -1
def v_node (N : Nat) (tb : Nat → Int32) (y : lr_T) (x1 x2 : Int32) : Int32 := match am_ix y.2.1.1 x1 with
  | none => -1
  | some i => v_sw 6 (fun q => if q < 6 then y.2.1.2 i q else nI (am_cn (fun s => tr_lt y.2.1.2 (tb s) i 17 0) N)) x2
noncomputable def v_cost (T : Nat) (tb : Nat → Int32) (y : lr_T) (x : Int32) : Int32 := match am_ix T x with
  | none => -1
  | some t => match ft_cost y.1.1 y.1.2.1 y.1.2.2.2.2.1 y.1.2.2.2.2.2 (ft_all y.1.1) (lr_g y.1) (lr_b y.1) (fun i => bt (tb (y.1.2.2.1 i)) t) with
    | none => -2
    | some c => nI c
def v_count (nv ns nb K T tl : Nat) (y : lr_T) (care order : Bool) (x : Int32) : Int32 := v_sw 11 (fun q => if q = 0 then nI nv else if q = 1 then nI ns else if q = 2 then nI nb else if q = 3 then nI K else if q = 4 then nI T else if q = 5 then nI y.1.1 else if q = 6 then nI y.1.2.1 else if q = 7 then nI y.2.1.1 else if q = 8 then y.2.2.2.1 else if q = 9 then am_bI care else if q = 10 then am_bI order else nI tl) x
theorem v_sw_lt {m : Int} {x : Int32} {k : Nat} (hm : m = (k : Int)) (hk : k < 2 ^ 31) (h : x.toInt < 0 ∨ m < x.toInt) : x < 0 ∨ ¬ x ≤ nI k := by
  rcases h with h | h
  · left; rw [Int32.lt_iff_toInt_lt]; exact h
  · right; rw [Int32.le_iff_toInt_le, nI_toInt hk]; omega
section CQ
variable {d N K T : Nat} {tb : Nat → Int32} {fl : Nat → Nat → Bool} {nx : Nat → Nat → Option Nat} {σ : am_St} {y : lr_T} {care order : Bool} {tm : Int32}
/-- only scratch has changed -/
theorem le_D.scr {τ : am_St} (h : le_D σ 6 y care order tm N) (hI : ∀ o k, o ≠ 5 → am_I τ o k = am_I σ o k) (hA : ∀ o k, o ≠ 5 → ¬ (o = 8 ∧ (k = 11 ∨ k = 12)) → am_A τ o k = am_A σ o k) (h2 : τ.2.2 = σ.2.2) : le_D τ 6 y care order tm N ∧ le_Fr 6 σ τ := by
  obtain ⟨-, hS, hst, ht3, -, -, -, -, g9, g10, g11, g12, g13, -, -, -⟩ := id h
  have ne := ht3.ne
  have hS' : am_SmT τ 8 y.1 := am_Sm.same hS (fun k _ => hI 8 k (by decide)) (fun k hk => hA 8 k (by decide) (by omega))
  refine ⟨le_C.upd2 h hS' hst (hI _ _ ne.2.2.1) (fun k => hA _ k ne.2.2.1 (fun z => ne.2.1 z.1)) (fun o k => by unfold am_R; rw [h2]) (fun k _ _ => hI 6 k (by decide)) ?_ ?_ ?_ ?_ ?_, fun o ho => ⟨fun k => hI o k (fun z => ho (Or.inr (Or.inr (Or.inl z)))), fun k => hA o k (fun z => ho (Or.inr (Or.inr (Or.inl z)))) (fun z => ho (Or.inr (Or.inl z.1))), by unfold am_J; rw [h2], fun k => by unfold am_R; rw [h2]⟩⟩
  · rw [hI 6 9 (by decide)]; exact g9
  · rw [hI 6 10 (by decide)]; exact g10
  · rw [hI 6 11 (by decide)]; exact g11
  · rw [hI 6 12 (by decide)]; exact g12
  · rw [hI 6 13 (by decide)]; exact g13
theorem sp_10_fault {f1 f2 : Int32} (h4 : am_I σ 0 4 = f1) (h5 : am_I σ 0 5 = f2) (x : Int32) : am_C false ya_10_fault d [.ref (am_oid 0), .int x] σ (fun r τ => τ = σ ∧ r = some (.int (if x = 0 then f1 else if x = 1 then f2 else -1))) := by
  refine am_enter rfl (by simp [Value.category]) (Nat.le_of_ble_eq_true rfl) ?_
  refine kb_10_fault_0 (kt := fun z => ?_) (kf := fun z => kb_10_fault_4 ⟨rfl, by rw [if_pos z, h4]⟩)
  rw [if_neg z]
  exact kb_10_fault_9 (kt := fun y => kb_10_fault_21 (k := kb_10_fault_22 ⟨rfl, by rw [if_neg y]⟩)) (kf := fun y => kb_10_fault_14 (k := kb_10_fault_22 ⟨rfl, by rw [if_pos y, h5]⟩))
theorem sp_10_is (hW : am_Wo σ N K T tb fl nx) (h : le_D σ 6 y care order tm N) (x1 x2 : Int32) : am_C false ya_10_is (d + 2) [.ref (am_oid 0), .int x1, .int x2] σ (fun r τ => τ = σ ∧ r = some (.int (v_is N K tb fl nx y x1 x2))) := by
  have hN := hW.1
  obtain ⟨-, hS, hst, ht3, -, -, hTr, hal, -⟩ := id h
  refine am_enter rfl (by simp [Value.category]) (Nat.le_of_ble_eq_true rfl) ?_
  refine kb_10_is_0 (hC := sp_9_hasState hW x1) (k := fun r τ hr => ?_)
  obtain ⟨rfl, rfl⟩ := hr
  rcases am_ix_cases N (by omega) x1 with ⟨s, hs, rfl, e, -, -⟩ | ⟨e, -⟩
  · have eV : v_is N K tb fl nx y (nI s) x2 = v_sw 6 (fun q => if q < 4 then am_bI (fl s q) else if q = 4 then am_bI (tr_hd y.2.1.1 y.2.1.2 (tb s)) else if q = 5 then am_oI (-2) (sm_find y.1.2.2.1 y.1.1 s) else nI (nx_cn nx K s)) x2 := by unfold v_is; rw [e]
    rw [eV, e]
    have cs : (nI s).toNatClampNeg = s := nI_clamp (by omega)
    have vs : vp_in (nI s) 600 := vp_in_nI (by omega) (by omega)
    refine kb_10_is_8 (kt := fun _ => ?_) (kf := fun z => absurd z (show ¬ am_bI true = 0 by decide))
    refine kb_10_is_13 (k0 := fun z => ?_) (k1 := fun z => ?_) (k2 := fun z => ?_) (k3 := fun z => ?_) (k4 := fun z => ?_) (k5 := fun z => ?_) (k6 := fun z => ?_) (kd := fun z => kb_10_is_147 ⟨rfl, by unfold v_sw; rw [if_pos z]⟩)
    · subst z
      refine kb_10_is_56 (hC := sp_9_flag (w := 0) hW hs (by decide)) (k := fun r τ' hr => ?_)
      obtain ⟨rfl, rfl⟩ := hr
      exact kb_10_is_65 ⟨rfl, rfl⟩
    · subst z
      refine kb_10_is_66 (hC := sp_9_flag (w := 1) hW hs (by decide)) (k := fun r τ' hr => ?_)
      obtain ⟨rfl, rfl⟩ := hr
      exact kb_10_is_75 ⟨rfl, rfl⟩
    · subst z
      refine kb_10_is_76 (hC := sp_9_flag (w := 2) hW hs (by decide)) (k := fun r τ' hr => ?_)
      obtain ⟨rfl, rfl⟩ := hr
      exact kb_10_is_85 ⟨rfl, rfl⟩
    · subst z
      refine kb_10_is_86 (hC := sp_9_flag (w := 3) hW hs (by decide)) (k := fun r τ' hr => ?_)
      obtain ⟨rfl, rfl⟩ := hr
      exact kb_10_is_96 ⟨rfl, rfl⟩
    · subst z
      have eB : am_A τ 4 10 (nI s).toNatClampNeg = tb s := by rw [cs]; exact (hW.2.2.2.2.2.2.1 s hs).1
      refine kb_10_is_97 (hi0 := vs) (hc0 := ht3.k) (hC := by rw [eB]; exact sp_8_accepts hTr hal) (k := fun r τ' hr => ?_)
      obtain ⟨rfl, rfl⟩ := hr
      refine kb_10_is_116 (kt := fun w => ?_) (kf := fun w => ?_)
      · rw [am_bI_0] at w
        refine kb_10_is_123 (k := kb_10_is_124 ⟨rfl, ?_⟩)
        show some (Value.int 0) = some (.int (am_bI (tr_hd y.2.1.1 y.2.1.2 (tb s))))
        rw [w]; rfl
      · rw [am_bI_0] at w
        refine kb_10_is_119 (k := kb_10_is_124 ⟨rfl, ?_⟩)
        show some (Value.int 1) = some (.int (am_bI (tr_hd y.2.1.1 y.2.1.2 (tb s))))
        have : tr_hd y.2.1.1 y.2.1.2 (tb s) = true := by simpa using w
        rw [this]; rfl
    · subst z
      refine kb_10_is_125 (hi0 := vs) (hq := ⟨rfl, ?_⟩)
      rw [cs]
      show _ = some (Value.int (am_oI (-2) (sm_find y.1.2.2.1 y.1.1 s)))
      rcases am_Sm.pt hS s (by omega) with ⟨i, a1, a2, a3⟩ | ⟨a1, a2⟩
      · rw [am_Sm.find hS a1 a2, show am_A τ 8 6 s = nI i from a3]; rfl
      · rw [sm_find_none a1, show am_A τ 8 6 s = -2 from a2]; rfl
    · subst z
      refine kb_10_is_138 (hC := sp_9_stepsFrom hW hs) (k := fun r τ' hr => ?_)
      obtain ⟨rfl, rfl⟩ := hr
      exact kb_10_is_146 ⟨rfl, rfl⟩
  · have eV : v_is N K tb fl nx y x1 x2 = -1 := by unfold v_is; rw [e]
    rw [eV, e]
    exact kb_10_is_8 (kt := fun z => absurd rfl z) (kf := fun _ => kb_10_is_11 ⟨rfl, rfl⟩)
theorem sp_10_next (hW : am_Wo σ N K T tb fl nx) (x1 x2 : Int32) : am_C false ya_10_next (d + 1) [.ref (am_oid 0), .int x1, .int x2] σ (fun r τ => τ = σ ∧ r = some (.int (v_next N K nx x1 x2))) := by
  have hN := hW.1
  have hK := hW.2.1
  have w5 := hW.2.2.2.2.1
  refine am_enter rfl (by simp [Value.category]) (Nat.le_of_ble_eq_true rfl) ?_
  refine kb_10_next_0 (hC := sp_9_hasState hW x1) (k := fun r τ hr => ?_)
  obtain ⟨rfl, rfl⟩ := hr
  rcases am_ix_cases N (by omega) x1 with ⟨s, hs, rfl, e, -, -⟩ | ⟨e, -⟩
  · have eV : v_next N K nx (nI s) x2 = match am_ix K x2 with | none => -1 | some k => am_oI (-2) (nx s k) := by unfold v_next; rw [e]
    rw [eV, e]
    refine kb_10_next_8 (kt := fun z => absurd z (show ¬ am_bI true = 0 by decide)) (kf := fun _ => ?_)
    rcases am_ix_cases K (by omega) x2 with ⟨k, hk, rfl, e2, z1, z2⟩ | ⟨e2, z⟩
    · rw [e2]
      refine kb_10_next_11 (kt := fun z => absurd z z1) (kf := fun _ => ?_)
      refine kb_10_next_15 (kt := fun _ => ?_) (kf := fun z => absurd (by rw [w5]; exact nI_lt hk (by omega)) z)
      refine kb_10_next_28 (hi0 := by rw [am_ix8]; exact vp_in_nI (by omega) (by omega)) (hq := ⟨rfl, ?_⟩)
      rw [am_ix8, nI_clamp (by omega), (hW.2.2.2.2.2.2.2 s hs k hk).1]
    · rw [e2]
      refine kb_10_next_11 (kt := fun _ => kb_10_next_26 ⟨rfl, rfl⟩) (kf := fun y1 => ?_)
      refine kb_10_next_15 (kt := fun y2 => ?_) (kf := fun _ => kb_10_next_26 ⟨rfl, rfl⟩)
      exfalso
      rw [w5] at y2
      rcases z with z | z
      · exact y1 z
      · have a := Int32.lt_iff_toInt_lt.mp y2
        have b := Int32.le_iff_toInt_le.mp z
        omega
  · have eV : v_next N K nx x1 x2 = -1 := by unfold v_next; rw [e]
    rw [eV, e]
    exact kb_10_next_8 (kt := fun _ => kb_10_next_26 ⟨rfl, rfl⟩) (kf := fun z => absurd rfl z)
theorem sp_10_holds (hW : am_Wo σ N K T tb fl nx) (x1 x2 : Int32) : am_C false ya_10_holds (d + 1) [.ref (am_oid 0), .int x1, .int x2] σ (fun r τ => τ = σ ∧ r = some (.int (v_holds N T tb x1 x2))) := by
  have hN := hW.1
  have hT := hW.2.2.1
  refine am_enter rfl (by simp [Value.category]) (Nat.le_of_ble_eq_true rfl) ?_
  refine kb_10_holds_0 (hC := sp_9_hasTest hW x1) (k := fun r τ hr => ?_)
  obtain ⟨rfl, rfl⟩ := hr
  rcases am_ix_cases T (by omega) x1 with ⟨t, ht, rfl, e, -, -⟩ | ⟨e, -⟩
  · have eV : v_holds N T tb (nI t) x2 = match am_ix N x2 with | none => -1 | some s => am_bI (bt (tb s) t) := by unfold v_holds; rw [e]
    rw [eV, e]
    refine kb_10_holds_8 (kt := fun z => absurd z (show ¬ am_bI true = 0 by decide)) (kf := fun _ => ?_)
    refine kb_10_holds_11 (hC := sp_9_hasState hW x2) (k := fun r τ' hr => ?_)
    obtain ⟨rfl, rfl⟩ := hr
    rcases am_ix_cases N (by omega) x2 with ⟨s, hs, rfl, e2, -, -⟩ | ⟨e2, -⟩
    · rw [e2]
      refine kb_10_holds_19 (kt := fun _ => ?_) (kf := fun z => absurd z (show ¬ am_bI true = 0 by decide))
      refine kb_10_holds_24 (hi0 := vp_in_nI (by omega) (by omega)) (hq := ⟨rfl, ?_⟩)
      rw [nI_clamp (show s < 2 ^ 31 by omega), (hW.2.2.2.2.2.2.1 s hs).1, am_sh1b _ (show t < 32 by omega)]
    · rw [e2]
      exact kb_10_holds_19 (kt := fun z => absurd rfl z) (kf := fun _ => kb_10_holds_22 ⟨rfl, rfl⟩)
  · have eV : v_holds N T tb x1 x2 = -1 := by unfold v_holds; rw [e]
    rw [eV, e]
    exact kb_10_holds_8 (kt := fun _ => kb_10_holds_22 ⟨rfl, rfl⟩) (kf := fun z => absurd rfl z)
theorem sp_10_many (hW : am_Wo σ N K T tb fl nx) (h : le_D σ 6 y care order tm N) (x : Int32) : am_C false ya_10_many (d + 3) [.ref (am_oid 0), .int x] σ (fun r τ => τ = σ ∧ r = some (.int (v_many N tb fl y x))) := by
  have hN := hW.1
  refine am_enter rfl (by simp [Value.category]) (Nat.le_of_ble_eq_true rfl) ?_
  have fin : ∀ (k : Int32) (p : Nat → Bool), ¬ (k < 0 ∨ ¬ k ≤ 5) → (∀ s, mn_p tb fl y.2.1.1 y.2.1.2 k s = p s) → v_many N tb fl y k = nI (am_cn p N) := fun k p hk hp => by
    unfold v_many; rw [if_neg hk, am_cn_congr (fun s _ => hp s)]
  refine kb_10_many_0 (k0 := fun z => ?_) (k1 := fun z => ?_) (k2 := fun z => ?_) (k3 := fun z => ?_) (k4 := fun z => ?_) (k5 := fun z => ?_) (kd := fun z => kb_10_many_93 ⟨rfl, ?_⟩)
  · subst z
    refine kb_10_many_40 ⟨rfl, ?_⟩
    rw [hW.2.2.2.1, fin 0 (fun _ => true) (by decide) (fun s => by unfold mn_p; rw [if_pos rfl])]
    have : am_cn (fun _ => true) N = N := by
      clear fin hW h hN
      induction N with
      | zero => rfl
      | succ N ih => unfold am_cn; rw [ih]; rfl
    rw [this]
  · subst z
    refine kb_10_many_48 (hC := sp_9_flagged (w := 0) hW (by decide)) (k := fun r τ hr => ?_)
    obtain ⟨rfl, rfl⟩ := hr
    exact kb_10_many_56 ⟨rfl, by rw [fin 1 (fun s => fl s 0) (by decide) (fun s => by unfold mn_p; rw [if_neg (by decide), if_pos rfl])]⟩
  · subst z
    refine kb_10_many_57 (hC := sp_9_flagged (w := 1) hW (by decide)) (k := fun r τ hr => ?_)
    obtain ⟨rfl, rfl⟩ := hr
    exact kb_10_many_65 ⟨rfl, by rw [fin 2 (fun s => fl s 1) (by decide) (fun s => by unfold mn_p; rw [if_neg (by decide), if_neg (by decide), if_pos rfl])]⟩
  · subst z
    refine kb_10_many_66 (hC := sp_9_flagged (w := 2) hW (by decide)) (k := fun r τ hr => ?_)
    obtain ⟨rfl, rfl⟩ := hr
    exact kb_10_many_74 ⟨rfl, by rw [fin 3 (fun s => fl s 2) (by decide) (fun s => by unfold mn_p; rw [if_neg (by decide), if_neg (by decide), if_neg (by decide), if_pos rfl])]⟩
  · subst z
    refine kb_10_many_75 (hC := sp_9_flagged (w := 3) hW (by decide)) (k := fun r τ hr => ?_)
    obtain ⟨rfl, rfl⟩ := hr
    exact kb_10_many_84 ⟨rfl, by rw [fin 4 (fun s => fl s 3) (by decide) (fun s => by unfold mn_p; rw [if_neg (by decide), if_neg (by decide), if_neg (by decide), if_neg (by decide), if_pos rfl])]⟩
  · subst z
    refine kb_10_many_85 (hC := sp_1_acceptedStates hW h) (k := fun r τ hr => ?_)
    obtain ⟨rfl, rfl⟩ := hr
    exact kb_10_many_92 ⟨rfl, by rw [fin 5 (fun s => tr_hd y.2.1.1 y.2.1.2 (tb s)) (by decide) (fun s => by unfold mn_p; rw [if_neg (by decide), if_neg (by decide), if_neg (by decide), if_neg (by decide), if_neg (by decide)])]⟩
  · unfold v_many; rw [if_pos (show x < 0 ∨ ¬ x ≤ 5 from v_sw_lt (k := 5) rfl (by decide) z)]
theorem sp_10_ended (h : le_D σ 6 y care order tm N) : am_C false ya_10_ended d [.ref (am_oid 0)] σ (fun r τ => τ = σ ∧ r = some (.int y.2.2.1)) := by
  obtain ⟨-, -, -, -, -, -, -, -, g9, -⟩ := id h
  exact am_enter rfl (by simp [Value.category]) (Nat.le_of_ble_eq_true rfl) (kb_10_ended_0 ⟨rfl, by rw [g9]⟩)
theorem sp_10_brought (h : le_D σ 6 y care order tm N) (x : Int32) : am_C false ya_10_brought d [.ref (am_oid 0), .int x] σ (fun r τ => τ = σ ∧ r = some (.int (v_brought y x))) := by
  obtain ⟨-, -, -, -, -, -, -, -, g9, g10, g11, g12, g13, -⟩ := id h
  refine am_enter rfl (by simp [Value.category]) (Nat.le_of_ble_eq_true rfl) ?_
  exact kb_10_brought_0 (k0 := fun z => kb_10_brought_28 ⟨rfl, by rw [g11, z]; rfl⟩) (k1 := fun z => kb_10_brought_36 ⟨rfl, by rw [g12, z]; rfl⟩) (k2 := fun z => kb_10_brought_44 ⟨rfl, by rw [g13, z]; rfl⟩) (kd := fun z => kb_10_brought_52 ⟨rfl, by unfold v_brought v_sw; rw [if_pos z]⟩)
theorem sp_0_labelOf {o P q : Nat} {st td fs sn : Nat → Nat} (hS : am_Sm σ o P q st td fs sn) {i : Nat} (hi : i < P) : am_C false ya_0_labelOf (d + 2) [.ref (am_oid 5), .ref (am_oid o), .int (nI i)] σ (fun r τ => r = some (.int (am_lb (am_clo q fs sn (am_tg td 1 P) i) (am_clo q sn fs (am_tg td 2 P) i))) ∧ ∃ g bd qf, τ = lb_St σ o g bd qf) := by
  have ho := hS.1
  have hP := hS.2.1
  refine am_enter rfl (by simp [Value.category]) (Nat.le_of_ble_eq_true rfl) ?_
  refine kb_0_labelOf_0 (hC := sp_5_labelAll d o P q st td fs sn σ hS) (k := fun r τ hr => ?_)
  obtain ⟨rfl, g, bd, qf, hg, hb, -, hτ⟩ := hr
  refine kb_0_labelOf_8 (hi0 := vp_in_nI (by omega) (by omega)) (hq := ⟨?_, g, bd, qf, hτ⟩)
  have ho5 : o ≠ 5 := fun e => by rw [e] at ho; exact absurd ho (by decide)
  rw [nI_clamp (by omega), hτ, lb_St_L, am_lbs_at (by omega), ← hg.eq, ← hb.eq]
theorem lb_scr {o : Nat} {g bd : Nat → Bool} {qf : Nat → Int32} (ho : o = 8) : (∀ o' k, o' ≠ 5 → am_I (lb_St σ o g bd qf) o' k = am_I σ o' k) ∧ (∀ o' k, o' ≠ 5 → ¬ (o' = 8 ∧ (k = 11 ∨ k = 12)) → am_A (lb_St σ o g bd qf) o' k = am_A σ o' k) ∧ (lb_St σ o g bd qf).2.2 = σ.2.2 := by
  subst ho
  refine ⟨fun _ _ _ => rfl, fun o' k h1 h2 => ?_, rfl⟩
  unfold lb_St
  rw [am_A_sA, if_neg (fun z => h2 ⟨z.2, Or.inl z.1⟩), am_A_sA, if_neg (fun z => h1 z.2)]
theorem nI_cnb {f : Nat → Nat} {A : Nat → Int32} {n i : Nat} (hA : ∀ k, k < n → A k = nI (f k)) (hf : ∀ k, k < n → f k < 2 ^ 31) (hi : i < 2 ^ 31) : am_cn (fun k => A k == nI i) n = am_cn (fun k => f k == i) n := am_cn_congr (fun k hk => by
  rw [hA k hk]
  by_cases c : f k = i
  · rw [c]; simp
  · have : nI (f k) ≠ nI i := fun e => c (nI_inj (hf k hk) hi e)
    rw [beq_eq_false_iff_ne.mpr this, beq_eq_false_iff_ne.mpr c])
theorem sp_10_point (h : le_D σ 6 y care order tm N) (x1 x2 : Int32) : am_C false ya_10_point (d + 3) [.ref (am_oid 0), .int x1, .int x2] σ (fun r τ => r = some (.int (v_point y x1 x2)) ∧ le_D τ 6 y care order tm N ∧ le_Fr 6 σ τ) := by
  obtain ⟨⟨P, q, st, td, fs, sn⟩, y2⟩ := y
  have hS : am_Sm σ 8 P q st td fs sn := h.2.1
  obtain ⟨-, hP, hq, i0, i1, hpt, hE1, hE2, -, -⟩ := id hS
  have out : v_point ((P, q, st, td, fs, sn), y2) x1 x2 = -1 → ∀ a1 a2 a3 : Option Value, am_T false ya_10_point (d + 3) (fun r τ => r = some (.int (v_point ((P, q, st, td, fs, sn), y2) x1 x2)) ∧ le_D τ 6 ((P, q, st, td, fs, sn), y2) care order tm N ∧ le_Fr 6 σ τ) 20 [some (.ref (am_oid 0)), a1, a2, a3] [] σ := fun e a1 a2 a3 => kb_10_point_20 ⟨by rw [e], h, le_Fr.rf⟩
  refine am_enter rfl (by simp [Value.category]) (Nat.le_of_ble_eq_true rfl) ?_
  rcases am_ix_cases P (by omega) x1 with ⟨i, hi, rfl, e, z1, z2⟩ | ⟨e, z⟩
  · have eV : v_point ((P, q, st, td, fs, sn), y2) (nI i) x2 = v_sw 4 (fun z => if z = 0 then nI (st i) else if z = 1 then am_lb (lr_g (P, q, st, td, fs, sn) i) (lr_b (P, q, st, td, fs, sn) i) else if z = 2 then nI (td i) else if z = 3 then nI (am_cn (fun k => fs k == i) q) else nI (am_cn (fun k => sn k == i) q)) x2 := by unfold v_point; rw [e]
    rw [eV]
    have ci : (nI i).toNatClampNeg = i := nI_clamp (by omega)
    have vi : vp_in (nI i) 200 := vp_in_nI (by omega) (by omega)
    refine kb_10_point_0 (kt := fun z => absurd z z1) (kf := fun _ => ?_)
    refine kb_10_point_12 (hc0 := rfl) (kt := fun _ => ?_) (kf := fun z => absurd (by rw [i0]; exact nI_lt hi (by omega)) z)
    refine kb_10_point_22 (k0 := fun z => ?_) (k1 := fun z => ?_) (k2 := fun z => ?_) (k3 := fun z => ?_) (k4 := fun z => ?_) (kd := fun z => kb_10_point_92 ⟨by unfold v_sw; rw [if_pos z], h, le_Fr.rf⟩)
    · subst z
      exact kb_10_point_56 (hc0 := rfl) (hi0 := vi) (hq := ⟨by rw [ci, (hpt i hi).1]; rfl, h, le_Fr.rf⟩)
    · subst z
      refine kb_10_point_63 (hC := sp_0_labelOf hS hi) (k := fun r τ hr => ?_)
      obtain ⟨rfl, g, bd, qf, hτ⟩ := hr
      obtain ⟨s1, s2, s3⟩ := lb_scr (σ := σ) (g := g) (bd := bd) (qf := qf) (o := 8) rfl
      rw [← hτ] at s1 s2 s3
      obtain ⟨u1, u2⟩ := h.scr s1 s2 s3
      exact kb_10_point_72 ⟨rfl, u1, u2⟩
    · subst z
      exact kb_10_point_73 (hc0 := rfl) (hi0 := vi) (hq := ⟨by rw [ci, (hpt i hi).2.2.1]; rfl, h, le_Fr.rf⟩)
    · subst z
      refine kb_10_point_80 (hc0 := rfl) (hC := sp_5_pairsFrom (d + 2) 8 q (nI i) σ rfl i1 hq) (k := fun r τ hr => ?_)
      obtain ⟨rfl, rfl⟩ := hr
      refine kb_10_point_85 ⟨?_, h, le_Fr.rf⟩
      rw [nI_cnb (f := fs) (fun k hk => hE2.2.2.1 k hk) (fun k hk => by have := (hE1.2.2.2 k hk).1; omega) (by omega)]; rfl
    · subst z
      refine kb_10_point_86 (hc0 := rfl) (hC := sp_5_pairsTo 8 q (nI i) rfl i1 hq) (k := fun r τ hr => ?_)
      obtain ⟨rfl, rfl⟩ := hr
      refine kb_10_point_91 ⟨?_, h, le_Fr.rf⟩
      rw [nI_cnb (f := sn) (fun k hk => hE1.2.2.1 k hk) (fun k hk => by have := (hE1.2.2.2 k hk).2; omega) (by omega)]; rfl
  · have eV : v_point ((P, q, st, td, fs, sn), y2) x1 x2 = -1 := by unfold v_point; rw [e]
    refine kb_10_point_0 (kt := fun _ => out eV _ _ _) (kf := fun y1 => ?_)
    refine kb_10_point_12 (hc0 := rfl) (kt := fun y2 => ?_) (kf := fun _ => out eV _ _ _)
    exfalso
    rw [i0] at y2
    rcases z with z | z
    · exact y1 z
    · have a := Int32.lt_iff_toInt_lt.mp y2
      have b := Int32.le_iff_toInt_le.mp z
      omega
theorem sp_10_pair (h : le_D σ 6 y care order tm N) (x1 x2 : Int32) : am_C false ya_10_pair d [.ref (am_oid 0), .int x1, .int x2] σ (fun r τ => τ = σ ∧ r = some (.int (v_pair y x1 x2))) := by
  obtain ⟨⟨P, q, st, td, fs, sn⟩, y2⟩ := y
  have hS : am_Sm σ 8 P q st td fs sn := h.2.1
  obtain ⟨-, hP, hq, i0, i1, hpt, hE1, hE2, -, -⟩ := id hS
  refine am_enter rfl (by simp [Value.category]) (Nat.le_of_ble_eq_true rfl) ?_
  rcases am_ix_cases q (by omega) x1 with ⟨i, hi, rfl, e, z1, z2⟩ | ⟨e, z⟩
  · have eV : v_pair ((P, q, st, td, fs, sn), y2) (nI i) x2 = if x2 = 0 then nI (fs i) else if x2 = 1 then nI (sn i) else -1 := by unfold v_pair; rw [e]
    rw [eV]
    have ci : (nI i).toNatClampNeg = i := nI_clamp (by omega)
    have vi : vp_in (nI i) 300 := vp_in_nI (by omega) (by omega)
    refine kb_10_pair_0 (kt := fun z => absurd z z1) (kf := fun _ => ?_)
    refine kb_10_pair_12 (hc0 := rfl) (kt := fun _ => ?_) (kf := fun z => absurd (by rw [i1]; exact nI_lt hi (by omega)) z)
    refine kb_10_pair_22 (kt := fun z => ?_) (kf := fun z => kb_10_pair_26 (hc0 := rfl) (hi0 := vi) (hq := ⟨rfl, by rw [ci, hE2.2.2.1 i hi, if_pos z]⟩))
    rw [if_neg z]
    exact kb_10_pair_33 (kt := fun w => kb_10_pair_47 (k := kb_10_pair_48 ⟨rfl, by rw [if_neg w]⟩)) (kf := fun w => kb_10_pair_38 (hc0 := rfl) (hi0 := vi) (k := kb_10_pair_48 ⟨rfl, by rw [ci, hE1.2.2.1 i hi, if_pos w]⟩))
  · have eV : v_pair ((P, q, st, td, fs, sn), y2) x1 x2 = -1 := by unfold v_pair; rw [e]
    rw [eV]
    refine kb_10_pair_0 (kt := fun _ => kb_10_pair_20 ⟨rfl, rfl⟩) (kf := fun y1 => ?_)
    refine kb_10_pair_12 (hc0 := rfl) (kt := fun y2 => ?_) (kf := fun _ => kb_10_pair_20 ⟨rfl, rfl⟩)
    exfalso
    rw [i1] at y2
    rcases z with z | z
    · exact y1 z
    · have a := Int32.lt_iff_toInt_lt.mp y2
      have b := Int32.le_iff_toInt_le.mp z
      omega
theorem sp_10_node (hW : am_Wo σ N K T tb fl nx) (h : le_D σ 6 y care order tm N) (x1 x2 : Int32) : am_C false ya_10_node (d + 3) [.ref (am_oid 0), .int x1, .int x2] σ (fun r τ => τ = σ ∧ r = some (.int (v_node N tb y x1 x2))) := by
  obtain ⟨-, hS, hst, ht3, -, -, hTr, hal, -⟩ := id h
  obtain ⟨hk8, hn, hI, hA⟩ := id hTr
  obtain ⟨n, hnn⟩ : ∃ n, n = y.2.1.1 := ⟨_, rfl⟩
  rw [← hnn] at hn hI hA
  refine am_enter rfl (by simp [Value.category]) (Nat.le_of_ble_eq_true rfl) ?_
  rcases am_ix_cases n (by omega) x1 with ⟨i, hi, rfl, e, z1, z2⟩ | ⟨e, z⟩
  · have eV : v_node N tb y (nI i) x2 = v_sw 6 (fun q => if q < 6 then y.2.1.2 i q else nI (am_cn (fun s => tr_lt y.2.1.2 (tb s) i 17 0) N)) x2 := by unfold v_node; rw [← hnn, e]
    rw [eV]
    have ci : (nI i).toNatClampNeg = i := nI_clamp (by omega)
    have vi : vp_in (nI i) 400 := vp_in_nI (by omega) (by omega)
    have ef : ∀ f, f < 7 → am_A σ (am_R σ 6 3) (1 + f) (nI i).toNatClampNeg = y.2.1.2 i f := fun f hf => by rw [ci]; exact hA i hi f hf
    refine kb_10_node_0 (kt := fun z => absurd z z1) (kf := fun _ => ?_)
    refine kb_10_node_12 (hc0 := ht3.k) (kt := fun _ => ?_) (kf := fun z => absurd (by rw [hI]; exact nI_lt hi (by omega)) z)
    refine kb_10_node_22 (k0 := fun z => kb_10_node_64 (hc0 := ht3.k) (hi0 := vi) (hq := ⟨rfl, by rw [ef 0 (by decide), z]; rfl⟩)) (k1 := fun z => kb_10_node_71 (hc0 := ht3.k) (hi0 := vi) (hq := ⟨rfl, by rw [ef 1 (by decide), z]; rfl⟩)) (k2 := fun z => kb_10_node_78 (hc0 := ht3.k) (hi0 := vi) (hq := ⟨rfl, by rw [ef 2 (by decide), z]; rfl⟩)) (k3 := fun z => kb_10_node_85 (hc0 := ht3.k) (hi0 := vi) (hq := ⟨rfl, by rw [ef 3 (by decide), z]; rfl⟩)) (k4 := fun z => kb_10_node_92 (hc0 := ht3.k) (hi0 := vi) (hq := ⟨rfl, by rw [ef 4 (by decide), z]; rfl⟩)) (k5 := fun z => kb_10_node_99 (hc0 := ht3.k) (hi0 := vi) (hq := ⟨rfl, by rw [ef 5 (by decide), z]; rfl⟩)) (k6 := fun z => ?_) (kd := fun z => kb_10_node_115 ⟨rfl, by unfold v_sw; rw [if_pos z]⟩)
    subst z
    refine kb_10_node_106 (hC := sp_1_statesAt hW h (show i < y.2.1.1 by rw [← hnn]; exact hi)) (k := fun r τ hr => ?_)
    obtain ⟨rfl, rfl⟩ := hr
    exact kb_10_node_114 ⟨rfl, rfl⟩
  · have eV : v_node N tb y x1 x2 = -1 := by unfold v_node; rw [← hnn, e]
    rw [eV]
    refine kb_10_node_0 (kt := fun _ => kb_10_node_20 ⟨rfl, rfl⟩) (kf := fun y1 => ?_)
    refine kb_10_node_12 (hc0 := ht3.k) (kt := fun y2 => ?_) (kf := fun _ => kb_10_node_20 ⟨rfl, rfl⟩)
    exfalso
    rw [hI] at y2
    rcases z with z | z
    · exact y1 z
    · have a := Int32.lt_iff_toInt_lt.mp y2
      have b := Int32.le_iff_toInt_le.mp z
      omega
theorem sp_10_cost (hW : am_Wo σ N K T tb fl nx) (h : le_D σ 6 y care order tm N) (x : Int32) : am_C false ya_10_cost (d + 3) [.ref (am_oid 0), .int x] σ (fun r τ => r = some (.int (v_cost T tb y x)) ∧ le_D τ 6 y care order tm N ∧ le_Fr 6 σ τ) := by
  obtain ⟨⟨P, q, st, td, fs, sn⟩, y2⟩ := y
  have hS : am_Sm σ 8 P q st td fs sn := h.2.1
  have hst : ∀ i, i < P → st i < N := h.2.2.1
  obtain ⟨-, hP, hq, i0, i1, hpt, hE1, hE2, -, -⟩ := id hS
  have hT := hW.2.2.1
  refine am_enter rfl (by simp [Value.category]) (Nat.le_of_ble_eq_true rfl) ?_
  refine kb_10_cost_0 (hC := sp_9_hasTest hW x) (k := fun r τ hr => ?_)
  obtain ⟨rfl, rfl⟩ := hr
  rcases am_ix_cases T (by omega) x with ⟨t, ht, rfl, e, -, -⟩ | ⟨e, -⟩
  · rw [e]
    refine kb_10_cost_8 (kt := fun _ => ?_) (kf := fun z => absurd z (show ¬ am_bI true = 0 by decide))
    refine kb_10_cost_13 (Q' := fun r τ' => r = some (.int (v_cost T tb ((P, q, st, td, fs, sn), y2) (nI t))) ∧ le_D τ' 6 ((P, q, st, td, fs, sn), y2) care order tm N ∧ le_Fr 6 τ τ') (hC := ?_) (k := fun r τ' hr => ?_)
    · refine am_enter rfl (by simp [Value.category]) (Nat.le_of_ble_eq_true rfl) ?_
      refine kb_0_rootCost_0 (hC := sp_5_labelAll d 8 P q st td fs sn τ hS) (k := fun r τ1 hr => ?_)
      obtain ⟨rfl, g, bd, qf, hg, hb, hz, hτ1⟩ := hr
      obtain ⟨s1, s2, s3⟩ := lb_scr (σ := τ) (g := g) (bd := bd) (qf := qf) (o := 8) rfl
      rw [← hτ1] at s1 s2 s3
      have hS1 : am_Sm τ1 8 P q st td fs sn := hS.same (fun k _ => s1 8 k (by decide)) (fun k hk => s2 8 k (by decide) (by omega))
      refine kb_0_rootCost_8 (hC := sp_0_takeAll hS1) (k := fun r τ2 hr => ?_)
      obtain ⟨rfl, e2, e3, e4, hτ2, f1, f2⟩ := hr
      have a2 : am_A τ2 5 2 = e2 := by rw [hτ2]; show am_A (am_sA (am_sA (am_sA τ1 5 3 e3) 5 2 e2) 5 4 e4) 5 2 = _; rw [am_A_sA, if_neg (by simp), am_A_sA, if_pos ⟨rfl, rfl⟩]
      have a3 : am_A τ2 5 3 = e3 := by rw [hτ2]; show am_A (am_sA (am_sA (am_sA τ1 5 3 e3) 5 2 e2) 5 4 e4) 5 3 = _; rw [am_A_sA, if_neg (by simp), am_A_sA, if_neg (by simp), am_A_sA, if_pos ⟨rfl, rfl⟩]
      have a4 : am_A τ2 5 4 = e4 := by rw [hτ2]; show am_A (am_sA (am_sA (am_sA τ1 5 3 e3) 5 2 e2) 5 4 e4) 5 4 = _; rw [am_A_sA, if_pos ⟨rfl, rfl⟩]
      have a1 : am_A τ2 5 1 = am_A τ1 5 1 := by rw [hτ2]; show am_A (am_sA (am_sA (am_sA τ1 5 3 e3) 5 2 e2) 5 4 e4) 5 1 = _; rw [am_A_sA, if_neg (by simp), am_A_sA, if_neg (by simp), am_A_sA, if_neg (by simp)]
      have b1 : ∀ o k, o ≠ 5 → am_I τ2 o k = am_I τ1 o k := fun o k ho => by rw [hτ2]; simp [am_I_sI, am_I_sA, ho]
      have b2 : ∀ o k, o ≠ 5 → am_A τ2 o k = am_A τ1 o k := fun o k ho => by rw [hτ2]; simp [am_A_sI, am_A_sA, ho]
      have b3 : τ2.2.2 = τ1.2.2 := by rw [hτ2]; rfl
      have hS2 : am_Sm τ2 8 P q st td fs sn := hS1.same (fun k _ => b1 8 k (by decide)) (fun k _ => b2 8 k (by decide))
      have hNd : ft_Nd τ2 0 P 0 q P q fs sn (ft_all P) := by
        refine ⟨?_, ?_, ?_, ?_, hP, hq, ?_, ?_⟩
        · rw [hτ2]; simp [am_I_sI, am_I_sA]; rfl
        · rw [hτ2]; simp [am_I_sI, am_I_sA]
        · rw [hτ2]; simp [am_I_sI, am_I_sA]; rfl
        · rw [hτ2]; simp [am_I_sI, am_I_sA]
        · rw [a3]; exact ft_all_En (by omega) (fun i hi => (f1 i hi).1)
        · rw [a4]
          have : ft_crs q fs sn (ft_all P) = ft_all q := by
            funext k
            unfold ft_crs ft_all
            by_cases c : k < q
            · have := hE1.2.2.2 k c
              simp [c, this.1, this.2]
            · simp [c]
          rw [this]; exact ft_all_En (by omega) f2
      have hLb : ft_Lb τ2 P g bd := fun i hi => by rw [a1, hτ1, lb_St_L]; exact am_lbs_at (by omega)
      refine kb_0_rootCost_13 (hC := sp_0_costOf hS2 (show t < 16 by omega) hNd hLb) (k := fun r τ3 hr => ?_)
      obtain ⟨rfl, rfl⟩ := hr
      obtain ⟨u1, u2⟩ := h.scr (τ := τ3) (fun o k ho => by rw [b1 o k ho]; exact s1 o k ho) (fun o k ho hk => by rw [b2 o k ho]; exact s2 o k ho hk) (by rw [b3]; exact s3)
      refine kb_0_rootCost_19 ⟨?_, u1, u2⟩
      have eV : v_cost T tb ((P, q, st, td, fs, sn), y2) (nI t) = match ft_cost P q fs sn (ft_all P) (lr_g (P, q, st, td, fs, sn)) (lr_b (P, q, st, td, fs, sn)) (fun i => bt (tb (st i)) t) with | none => -2 | some c => nI c := by unfold v_cost; rw [e]
      rw [eV]
      have ec : ft_cost P q fs sn (ft_all P) g bd (fun i => bt (am_A τ3 5 2 i) t) = ft_cost P q fs sn (ft_all P) (lr_g (P, q, st, td, fs, sn)) (lr_b (P, q, st, td, fs, sn)) (fun i => bt (tb (st i)) t) := by
        rw [hg.eq, hb.eq]
        exact ft_cost_congr hE1.2.2.2 (fun i hi => by
          rw [a2, (f1 i hi).2, s2 4 10 (by decide) (by decide), (hW.2.2.2.2.2.2.1 (st i) (hst i hi)).1])
      rw [ec]
      rfl
    · exact hr.elim (fun e0 hh => by rw [e0]; exact kb_10_cost_28 ⟨rfl, hh⟩)
  · have eV : v_cost T tb ((P, q, st, td, fs, sn), y2) x = -1 := by unfold v_cost; rw [e]
    rw [eV, e]
    exact kb_10_cost_8 (kt := fun z => absurd rfl z) (kf := fun _ => kb_10_cost_11 ⟨rfl, h, le_Fr.rf⟩)
theorem sp_10_count {nv ns nb tl : Nat} (hW : am_Wo σ N K T tb fl nx) (h : le_D σ 6 y care order tm N) (v0 : am_I σ 4 0 = nI nv) (v1 : am_I σ 4 1 = nI ns) (v2 : am_I σ 4 2 = nI nb) (ht : am_I σ 0 1 = nI tl) (x : Int32) : am_C false ya_10_count d [.ref (am_oid 0), .int x] σ (fun r τ => τ = σ ∧ r = some (.int (v_count nv ns nb K T tl y care order x))) := by
  obtain ⟨-, hS, hst, ht3, -, -, hTr, hal, g9, g10, g11, g12, g13, g6, g7, -⟩ := id h
  have i0 : am_I σ 8 0 = nI y.1.1 := hS.2.2.2.1
  have i1 : am_I σ 8 1 = nI y.1.2.1 := hS.2.2.2.2.1
  have n3 : am_I σ (am_R σ 6 3) 0 = nI y.2.1.1 := hTr.2.2.1
  refine am_enter rfl (by simp [Value.category]) (Nat.le_of_ble_eq_true rfl) ?_
  exact kb_10_count_0 (k0 := fun z => kb_10_count_64 ⟨rfl, by rw [v0, z]; rfl⟩) (k1 := fun z => kb_10_count_72 ⟨rfl, by rw [v1, z]; rfl⟩) (k2 := fun z => kb_10_count_80 ⟨rfl, by rw [v2, z]; rfl⟩) (k3 := fun z => kb_10_count_88 ⟨rfl, by rw [hW.2.2.2.2.1, z]; rfl⟩) (k4 := fun z => kb_10_count_96 ⟨rfl, by rw [hW.2.2.2.2.2.1, z]; rfl⟩) (k5 := fun z => kb_10_count_104 ⟨rfl, by rw [i0, z]; rfl⟩) (k6 := fun z => kb_10_count_115 ⟨rfl, by rw [i1, z]; rfl⟩) (k7 := fun z => kb_10_count_126 (hc0 := ht3.k) (hq := ⟨rfl, by rw [n3, z]; rfl⟩)) (k8 := fun z => kb_10_count_137 ⟨rfl, by rw [g10, z]; rfl⟩) (k9 := fun z => kb_10_count_145 ⟨rfl, by rw [g6, z]; rfl⟩) (k10 := fun z => kb_10_count_153 ⟨rfl, by rw [g7, z]; rfl⟩) (k11 := fun z => kb_10_count_161 ⟨rfl, by rw [ht, z]; rfl⟩) (kd := fun z => kb_10_count_166 ⟨rfl, by unfold v_count v_sw; rw [if_pos z]⟩)
theorem sp_10_together (hW : am_Wo σ N K T tb fl nx) (hk : tg_ok σ N K T tb fl nx) (x : Int32) : am_C false ya_10_together (d + 3) [.ref (am_oid 0), .int x] σ (fun r τ => r = some (.int (if x < 0 ∨ ¬ x ≤ 1 then -1 else if x = 1 then (tg_fin N K T tb fl nx).1 else (tg_fin N K T tb fl nx).2)) ∧ am_On 15 σ τ ∧ tg_ok τ N K T tb fl nx) := by
  refine am_enter rfl (by simp [Value.category]) (Nat.le_of_ble_eq_true rfl) ?_
  refine kb_10_together_0 (kt := fun z => kb_10_together_9 ⟨by rw [if_pos (Or.inl z)], am_On.rf, hk⟩) (kf := fun z0 => ?_)
  refine kb_10_together_4 (kt := fun z1 => ?_) (kf := fun z => kb_10_together_9 ⟨by rw [if_pos (Or.inr z)], am_On.rf, hk⟩)
  rw [if_neg (fun z => z.elim z0 (fun z => z z1))]
  refine kb_10_together_11 (hC := sp_3_keepTogether hW hk) (k := fun r τ hr => ?_)
  obtain ⟨rfl, u1, u2, u3, u4⟩ := hr
  exact kb_10_together_18 (kt := fun w => kb_10_together_33 (k := kb_10_together_40 ⟨by rw [if_neg w, u4], u1, Or.inr ⟨u2, u3, u4⟩⟩)) (kf := fun w => kb_10_together_23 (k := kb_10_together_40 ⟨by rw [if_pos w, u3], u1, Or.inr ⟨u2, u3, u4⟩⟩))
theorem sp_10_togetherProves (hW : am_Wo σ N K T tb fl nx) (hk : tg_ok σ N K T tb fl nx) : am_C false ya_10_togetherProves (d + 3) [.ref (am_oid 0)] σ (fun r τ => r = some (.int (am_bI (!tg_bd N tb fl (tg_fin N K T tb fl nx)))) ∧ am_On 15 σ τ ∧ tg_ok τ N K T tb fl nx) := by
  refine am_enter rfl (by simp [Value.category]) (Nat.le_of_ble_eq_true rfl) ?_
  refine kb_10_togetherProves_0 (hC := sp_3_keepTogether hW hk) (k := fun r τ hr => ?_)
  obtain ⟨rfl, u1, u2, u3, u4⟩ := hr
  refine kb_10_togetherProves_7 (hC := sp_3_excludesBad (u1.wo (by decide) hW) (tg_fin N K T tb fl nx) u3 u4) (k := fun r τ' hr => ?_)
  obtain ⟨hτ, rfl⟩ := hr
  subst hτ
  refine kb_10_togetherProves_14 (kt := fun z => ?_) (kf := fun z => ?_)
  · rw [am_bI_0] at z
    exact kb_10_togetherProves_21 (k := kb_10_togetherProves_22 ⟨by rw [z]; rfl, u1, Or.inr ⟨u2, u3, u4⟩⟩)
  · rw [am_bI_0] at z
    have z' : (!tg_bd N tb fl (tg_fin N K T tb fl nx)) = true := by simpa using z
    exact kb_10_togetherProves_17 (k := kb_10_togetherProves_22 ⟨by rw [z']; rfl, u1, Or.inr ⟨u2, u3, u4⟩⟩)
theorem sp_10_bySteps (hW : am_Wo σ N K T tb fl nx) (hk : tg_ok σ N K T tb fl nx) : am_C false ya_10_bySteps (d + 3) [.ref (am_oid 0)] σ (fun r τ => r = some (.int (bs_fin N K fl nx)) ∧ am_On 15 σ τ ∧ tg_ok τ N K T tb fl nx) := by
  refine am_enter rfl (by simp [Value.category]) (Nat.le_of_ble_eq_true rfl) ?_
  refine kb_10_bySteps_0 (hC := sp_3_leastInduction hW) (k := fun r τ hr => ?_)
  obtain ⟨rfl, u1, u2⟩ := hr
  refine kb_10_bySteps_7 ⟨rfl, u1, ?_⟩
  unfold tg_ok at hk ⊢
  rw [u2, u2, u2]; exact hk
theorem sp_10_trace (h : le_D σ 6 y care order tm N) (x : Int32) : am_C false ya_10_trace (d + 2) [.ref (am_oid 0), .int x] σ (fun r τ => r = some (.int (if y.2.2.1 = 2 ∧ 0 ≤ x then tc_fin y.1.1 y.1.2.1 y.1.2.2.2.1 y.1.2.2.2.2.1 y.1.2.2.2.2.2 (ds_f y.1.1 y.1.2.1 (am_tg y.1.2.2.2.1 2 y.1.1) y.1.2.2.2.2.1 y.1.2.2.2.2.2) x else -1)) ∧ le_D τ 6 y care order tm N ∧ le_Fr 6 σ τ) := by
  obtain ⟨-, hS, -, -, -, -, -, -, g9, -⟩ := id h
  refine am_enter rfl (by simp [Value.category]) (Nat.le_of_ble_eq_true rfl) ?_
  refine kb_10_trace_0 (kt := fun z => kb_10_trace_15 ⟨by rw [if_neg (fun w => z (g9.trans w.1))], h, le_Fr.rf⟩) (kf := fun z => ?_)
  rw [g9] at z
  refine kb_10_trace_11 (kt := fun w => ?_) (kf := fun w => kb_10_trace_15 ⟨by rw [if_neg (fun v => w v.2)], h, le_Fr.rf⟩)
  rw [if_pos ⟨z, w⟩]
  refine kb_10_trace_17 (hC := sp_5_onWay hS w) (k := fun r τ hr => ?_)
  obtain ⟨rfl, D, qf, hτ⟩ := hr
  obtain ⟨u1, u2⟩ := h.scr (τ := τ) (fun o k _ => by rw [hτ]; rfl) (fun o k _ hk => by rw [hτ]; exact ms_An (fun z => hk ⟨z.2, Or.inl z.1⟩) (fun z => hk ⟨z.2, Or.inr z.1⟩)) (by rw [hτ]; rfl)
  exact kb_10_trace_28 ⟨rfl, u1, u2⟩
theorem sp_10_run (hW : am_Wo σ N K T tb fl nx) (h : le_D σ 6 y care order tm N) (x1 x2 : Int32) : am_C false ya_10_run (d + 3) [.ref (am_oid 0), .int x1, .int x2] σ (fun r τ => r = some (.int (rn_all N K fl nx y x1 x2).2) ∧ le_D τ 6 (rn_all N K fl nx y x1 x2).1 care order tm N ∧ le_Fr 6 σ τ) := by
  obtain ⟨-, hS, -, -, -, -, -, -, g9, -⟩ := id h
  have out : (x1 < 0 ∨ x2 < 0 ∨ 100 < x2 ∨ y.2.2.1 ≠ 0) → am_T false ya_10_run (d + 3) (fun r τ => r = some (.int (rn_all N K fl nx y x1 x2).2) ∧ le_D τ 6 (rn_all N K fl nx y x1 x2).1 care order tm N ∧ le_Fr 6 σ τ) 24 [some (.ref (am_oid 0)), some (.int x1), some (.int x2)] [] σ := fun z => by
    have e : rn_all N K fl nx y x1 x2 = (y, -1) := by unfold rn_all; rw [if_pos z]
    rw [e]
    exact kb_10_run_24 ⟨rfl, h, le_Fr.rf⟩
  refine am_enter rfl (by simp [Value.category]) (Nat.le_of_ble_eq_true rfl) ?_
  refine kb_10_run_0 (kt := fun z => out (Or.inl z)) (kf := fun z1 => ?_)
  refine kb_10_run_4 (kt := fun z => out (Or.inr (Or.inl z))) (kf := fun z2 => ?_)
  refine kb_10_run_8 (kt := fun z => out (Or.inr (Or.inr (Or.inl z)))) (kf := fun z3 => ?_)
  refine kb_10_run_14 (kt := fun z4 => ?_) (kf := fun z => out (Or.inr (Or.inr (Or.inr (fun w => z (g9.trans w))))))
  rw [g9] at z4
  obtain ⟨sd, hsd, rfl⟩ := nI_of z1
  obtain ⟨n, hn31, rfl⟩ := nI_of z2
  have hn : n ≤ 100 := by
    rw [show (100 : Int32) = nI 100 from rfl, nI_ltI (by decide) hn31] at z3; omega
  have eA : rn_all N K fl nx y (nI sd) (nI n) = (((rn_fin N K fl nx y.1 sd n).1, y.2), (rn_fin N K fl nx y.1 sd n).2) := by
    unfold rn_all
    rw [if_neg (fun z => by rcases z with z | z | z | z; exact z1 z; exact z2 z; exact z3 z; exact z z4), nI_clamp hsd, nI_clamp hn31]
  rw [eA]
  refine kb_10_run_26 (hC := sp_1_drawRun h hW hsd hn) (k := fun r τ hr => ?_)
  obtain ⟨rfl, u1, u2⟩ := hr
  exact kb_10_run_35 ⟨rfl, u1, u2⟩
noncomputable def v_learn (N K T : Nat) (tb : Nat → Int32) (fl : Nat → Nat → Bool) (nx : Nat → Nat → Option Nat) (al : Nat → Bool) (care order : Bool) (y : lr_T) (x : Int32) : lr_T × Int32 := if x < 1 ∨ ¬ x ≤ 100 then (y, -1) else ((lr_rds N K T tb fl nx al care order x.toNatClampNeg y).1, nI (lr_rds N K T tb fl nx al care order x.toNatClampNeg y).2)
theorem sp_10_learn (hW : am_Wo σ N K T tb fl nx) (h : le_D σ 6 y care order tm N) (x : Int32) : am_C false ya_10_learn (d + 6) [.ref (am_oid 0), .int x] σ (fun r τ => r = some (.int (v_learn N K T tb fl nx (fun t => bt tm t) care order y x).2) ∧ le_D τ 6 (v_learn N K T tb fl nx (fun t => bt tm t) care order y x).1 care order tm N ∧ le_Fr 6 σ τ) := by
  refine am_enter rfl (by simp [Value.category]) (Nat.le_of_ble_eq_true rfl) ?_
  have out : (x < 1 ∨ ¬ x ≤ 100) → am_T false ya_10_learn (d + 6) (fun r τ => r = some (.int (v_learn N K T tb fl nx (fun t => bt tm t) care order y x).2) ∧ le_D τ 6 (v_learn N K T tb fl nx (fun t => bt tm t) care order y x).1 care order tm N ∧ le_Fr 6 σ τ) 11 [some (.ref (am_oid 0)), some (.int x)] [] σ := fun z => by
    have e : v_learn N K T tb fl nx (fun t => bt tm t) care order y x = (y, -1) := by unfold v_learn; rw [if_pos z]
    rw [e]
    exact kb_10_learn_11 ⟨rfl, h, le_Fr.rf⟩
  refine kb_10_learn_0 (kt := fun z => out (Or.inl z)) (kf := fun z1 => ?_)
  refine kb_10_learn_5 (kt := fun z2 => ?_) (kf := fun z => out (Or.inr z))
  obtain ⟨m, hm, rfl⟩ := nI_of2 (M := 100) (n := 100) (by decide) (fun z => z1 (by
    have a := Int32.lt_iff_toInt_lt.mp z
    rw [Int32.lt_iff_toInt_lt]
    have b : (1 : Int32).toInt = 1 := by decide
    have c : (0 : Int32).toInt = 0 := by decide
    omega)) z2
  have e : v_learn N K T tb fl nx (fun t => bt tm t) care order y (nI m) = ((lr_rds N K T tb fl nx (fun t => bt tm t) care order m y).1, nI (lr_rds N K T tb fl nx (fun t => bt tm t) care order m y).2) := by
    unfold v_learn; rw [if_neg (fun z => z.elim z1 (fun z => z z2)), nI_clamp (by omega)]
  rw [e]
  refine kb_10_learn_13 (hC := sp_1_doRounds hm h hW) (k := fun r τ hr => ?_)
  obtain ⟨rfl, u1, u2⟩ := hr
  exact kb_10_learn_21 ⟨rfl, u1, u2⟩
end CQ
