/-! the class: short rows, ways, trials -/
def am_Eo (o : Nat) (σ τ : am_St) : Prop := (∀ k, am_I τ o k = am_I σ o k) ∧ (∀ k, am_A τ o k = am_A σ o k) ∧ am_J τ o = am_J σ o ∧ ∀ k, am_R τ o k = am_R σ o k
theorem am_Eo.rf {o : Nat} {σ : am_St} : am_Eo o σ σ := ⟨fun _ => rfl, fun _ => rfl, rfl, fun _ => rfl⟩
theorem am_Eo.tr {o : Nat} {σ τ υ : am_St} (h : am_Eo o σ τ) (h' : am_Eo o τ υ) : am_Eo o σ υ := ⟨fun k => (h'.1 k).trans (h.1 k), fun k => (h'.2.1 k).trans (h.2.1 k), h'.2.2.1.trans h.2.2.1, fun k => (h'.2.2.2 k).trans (h.2.2.2 k)⟩
theorem am_On.eo {t o : Nat} {σ τ : am_St} (h : am_On t σ τ) (ho : o ≠ t) : am_Eo o σ τ := ⟨fun k => h.1 o k ho, fun k => h.2.1 o k ho, by unfold am_J; rw [h.2.2], fun k => by unfold am_R; rw [h.2.2]⟩
def lr_ok (y : lr_T) : Prop := (0 < y.2.1.1 → tr_sb y.2.1.2 17 [] (-1) 0 y.2.1.1) ∧ (y.2.2.1 = 2 → lr_us y.1.1 y.1.2.2.2.1 (lr_g y.1) = true) ∧ (y.2.2.1 = 1 → 0 < y.2.1.1)
def cl_s (σ : am_St) (N K : Nat) (tb : Nat → Int32) (fl : Nat → Nat → Bool) (nx : Nat → Nat → Option Nat) (y : lr_T) : Prop := am_I σ 14 2 = 0 ∨ (am_I σ 14 2 = 1 ∧ y.2.2.1 = 1 ∧ sh_Ok σ N K tb fl nx (tr_rw y.2.1.2 17 [] 0))
def v_way (x1 x2 : Int32) : Option (Bool × Bool) := if x1 < 0 ∨ 1 < x1 ∨ x2 < 0 ∨ 1 < x2 then none else some (decide (x1 = 1), decide (x2 = 1))
theorem v_way_1 {x : Int32} (h0 : ¬ x < 0) (h1 : ¬ 1 < x) : x = am_bI (decide (x = 1)) := by
  obtain ⟨j, hj, rfl⟩ := nI_of h0
  have : j ≤ 1 := by
    rcases Nat.lt_or_ge 1 j with c | c
    · exact absurd (nI_lt c hj) h1
    · exact c
  rcases (show j = 0 ∨ j = 1 by omega) with rfl | rfl <;> rfl
theorem v_way_some {x1 x2 : Int32} {c : Bool × Bool} (h : v_way x1 x2 = some c) : x1 = am_bI c.1 ∧ x2 = am_bI c.2 := by
  unfold v_way at h
  split at h
  · cases h
  · rename_i hn
    injection h with h
    rw [← h]
    exact ⟨v_way_1 (fun z => hn (Or.inl z)) (fun z => hn (Or.inr (Or.inl z))), v_way_1 (fun z => hn (Or.inr (Or.inr (Or.inl z)))) (fun z => hn (Or.inr (Or.inr (Or.inr z))))⟩
def lr_0 : lr_T := ((0, 0, fun _ => 0, fun _ => 0, fun _ => 0, fun _ => 0), (0, fun _ _ => 0), 0, 0, 0, -2, -2)
def lf_m (T : Nat) (w : Option Nat) : Int32 := match w with
  | none => tg_al T
  | some t => tg_al T &&& ((1 <<< (nI t &&& 31)) ^^^ -1)
noncomputable def lf_y (N K T : Nat) (tb : Nat → Int32) (fl : Nat → Nat → Bool) (nx : Nat → Nat → Option Nat) (c o : Bool) (w : Option Nat) : lr_T := (lr_rds N K T tb fl nx (fun t => bt (lf_m T w) t) c o 100 lr_0).1
def lf_f (y : lr_T) (j : Nat) : Int32 := if j = 0 then y.2.2.1 else if j = 1 then y.2.2.2.1 else if j = 2 then nI y.1.1 else nI y.2.1.1
def am_bN (b : Bool) : Nat := if b = true then 1 else 0
theorem am_bN_I (b : Bool) : nI (am_bN b) = am_bI b := by cases b <;> rfl
def lf_wn (w : Option Nat) : Nat := match w with
  | none => 0
  | some t => t + 1
def lf_way (c o : Bool) (w : Option Nat) : Nat := (2 * am_bN c + am_bN o) * 17 + lf_wn w
def cl_ca (σ : am_St) (N K T : Nat) (tb : Nat → Int32) (fl : Nat → Nat → Bool) (nx : Nat → Nat → Option Nat) : Prop := ∀ (c o : Bool) (w : Option Nat), (∀ t, w = some t → t < T) → am_A σ 0 13 (lf_way c o w) = 0 ∨ (am_A σ 0 13 (lf_way c o w) = 1 ∧ ∀ j, j < 4 → am_A σ 0 12 (4 * lf_way c o w + j) = lf_f (lf_y N K T tb fl nx c o w) j)
theorem lf_wn_c {w : Option Nat} {T : Nat} (h : ∀ t, w = some t → t < T) : (w = none ∧ lf_wn w = 0) ∨ ∃ t, t < T ∧ w = some t ∧ lf_wn w = t + 1 := by
  cases w with
  | none => exact Or.inl ⟨rfl, rfl⟩
  | some t => exact Or.inr ⟨t, h t rfl, rfl, rfl⟩
theorem am_bN_c (b : Bool) : am_bN b = 0 ∧ b = false ∨ am_bN b = 1 ∧ b = true := by cases b <;> simp [am_bN]
theorem lf_way_inj {c o c' o' : Bool} {w w' : Option Nat} {T : Nat} (hT : T ≤ 16) (hw : ∀ t, w = some t → t < T) (hw' : ∀ t, w' = some t → t < T) (h : lf_way c o w = lf_way c' o' w') : c = c' ∧ o = o' ∧ w = w' := by
  unfold lf_way at h
  have e1 : lf_wn w < 17 := by rcases lf_wn_c hw with ⟨-, z⟩ | ⟨t, z1, -, z2⟩ <;> omega
  have e2 : lf_wn w' < 17 := by rcases lf_wn_c hw' with ⟨-, z⟩ | ⟨t, z1, -, z2⟩ <;> omega
  have hc : am_bN c = am_bN c' ∧ am_bN o = am_bN o' ∧ lf_wn w = lf_wn w' := by rcases am_bN_c c with ⟨z1, -⟩ | ⟨z1, -⟩ <;> rcases am_bN_c o with ⟨z2, -⟩ | ⟨z2, -⟩ <;> rcases am_bN_c c' with ⟨z3, -⟩ | ⟨z3, -⟩ <;> rcases am_bN_c o' with ⟨z4, -⟩ | ⟨z4, -⟩ <;> omega
  have bi : ∀ a b : Bool, am_bN a = am_bN b → a = b := fun a b h => by cases a <;> cases b <;> first | rfl | exact absurd h (by decide)
  refine ⟨bi _ _ hc.1, bi _ _ hc.2.1, ?_⟩
  rcases lf_wn_c hw with ⟨y1, z1⟩ | ⟨t, -, y1, z1⟩ <;> rcases lf_wn_c hw' with ⟨y2, z2⟩ | ⟨t', -, y2, z2⟩
  · rw [y1, y2]
  · omega
  · omega
  · rw [y1, y2]; congr 1; omega
theorem lf_way_lt {c o : Bool} {w : Option Nat} {T : Nat} (hT : T ≤ 16) (hw : ∀ t, w = some t → t < T) : lf_way c o w < 68 := by
  unfold lf_way
  have e1 : lf_wn w < 17 := by rcases lf_wn_c hw with ⟨-, z⟩ | ⟨t, z1, -, z2⟩ <;> omega
  rcases am_bN_c c with ⟨z1, -⟩ | ⟨z1, -⟩ <;> rcases am_bN_c o with ⟨z2, -⟩ | ⟨z2, -⟩ <;> omega
def cl_7 (σ : am_St) : Prop := le_tr 7 (am_R σ 7 3) ∧ le_tr 7 (am_R σ 7 4) ∧ am_R σ 7 3 ≠ am_R σ 7 4
def fr_T (σ τ : am_St) : Prop := (∀ o, ¬ le_own 7 o → o ≠ 0 → am_Eo o σ τ) ∧ (∀ k, am_I τ 0 k = am_I σ 0 k) ∧ ∀ k, k ≠ 12 → k ≠ 13 → am_A τ 0 k = am_A σ 0 k
theorem fr_T.rf {σ : am_St} : fr_T σ σ := ⟨fun _ _ _ => am_Eo.rf, fun _ => rfl, fun _ _ _ => rfl⟩
theorem fr_T.tr {σ τ υ : am_St} (h : fr_T σ τ) (h' : fr_T τ υ) : fr_T σ υ := ⟨fun o a b => (h.1 o a b).tr (h'.1 o a b), fun k => (h'.2.1 k).trans (h.2.1 k), fun k a b => (h'.2.2 k a b).trans (h.2.2 k a b)⟩
section CT
variable {d N K T : Nat} {tb : Nat → Int32} {fl : Nat → Nat → Bool} {nx : Nat → Nat → Option Nat} {σ : am_St} {y : lr_T} {care order : Bool} {tm : Int32}
theorem sp_10_prepareShort (hW : am_Wo σ N K T tb fl nx) (h : le_D σ 6 y care order tm N) (hok : lr_ok y) (hs : cl_s σ N K tb fl nx y) : am_C false ya_10_prepareShort (d + 4) [.ref (am_oid 0)] σ (fun r τ => r = some (.int (am_bI (decide (y.2.2.1 = 1)))) ∧ am_On 14 σ τ ∧ cl_s τ N K tb fl nx y ∧ (y.2.2.1 = 1 → sh_Ok τ N K tb fl nx (tr_rw y.2.1.2 17 [] 0))) := by
  obtain ⟨-, hS, -, ht3, -, -, hTr, -, g9, -⟩ := id h
  refine am_enter rfl (by simp [Value.category]) (Nat.le_of_ble_eq_true rfl) ?_
  by_cases e1 : y.2.2.1 = 1
  · rw [decide_eq_true e1]
    refine kb_10_prepareShort_0 (kt := fun _ => ?_) (kf := fun z => absurd (g9.trans e1) z)
    have hn0 := hok.2.2 e1
    obtain ⟨s1, pt, p0, p1, p2⟩ := tr_sb_pt 17 [] (-1) 0 _ (hok.1 hn0) hTr.2.1 ⟨fun c hc => (by cases hc), List.Pairwise.nil⟩ (by decide)
    rw [Nat.sub_zero] at p2
    rcases hs with hs | ⟨hs1, hs2, hs3⟩
    · refine kb_10_prepareShort_13 (kt := fun z => absurd hs z) (kf := fun _ => ?_)
      refine kb_10_prepareShort_23 (hC := sp_6_shorten hW hTr p1 p0 (by rw [p2]; have := hTr.2.1; omega)) (k := fun r τ hr => ?_)
      obtain ⟨rfl, u1, u2, u3⟩ := hr
      rw [p2] at u3
      exact kb_10_prepareShort_37 ⟨rfl, u1, Or.inr ⟨u2, e1, u3⟩, fun _ => u3⟩
    · refine kb_10_prepareShort_13 (kt := fun _ => kb_10_prepareShort_37 ⟨rfl, am_On.rf, Or.inr ⟨hs1, hs2, hs3⟩, fun _ => hs3⟩) (kf := fun z => absurd z (by rw [hs1]; decide))
  · rw [decide_eq_false e1]
    exact kb_10_prepareShort_0 (kt := fun z => absurd (g9.symm.trans z) e1) (kf := fun _ => kb_10_prepareShort_11 ⟨rfl, am_On.rf, hs, fun z => absurd z e1⟩)
theorem sp_10_rows (hW : am_Wo σ N K T tb fl nx) (h : le_D σ 6 y care order tm N) (hok : lr_ok y) (hs : cl_s σ N K tb fl nx y) (x : Int32) (b : Bool) : am_C false ya_10_rows (d + 5) [.ref (am_oid 0), .int x, .int (am_bI b)] σ (fun r τ => r = some (.int (rq_rows y.2.1.1 y.2.2.1 (rq_L N K tb fl nx (tr_rw y.2.1.2 17 [] 0) b) x b)) ∧ am_On 14 σ τ ∧ cl_s τ N K tb fl nx y) := by
  obtain ⟨-, hS, -, ht3, -, -, hTr, -, g9, -⟩ := id h
  have hn4 := hTr.2.1
  refine am_enter rfl (by simp [Value.category]) (Nat.le_of_ble_eq_true rfl) ?_
  have out : (x < 0 ∨ ¬ x ≤ 1) → am_T false ya_10_rows (d + 5) (fun r τ => r = some (.int (rq_rows y.2.1.1 y.2.2.1 (rq_L N K tb fl nx (tr_rw y.2.1.2 17 [] 0) b) x b)) ∧ am_On 14 σ τ ∧ cl_s τ N K tb fl nx y) 9 [some (.ref (am_oid 0)), some (.int x), some (.int (am_bI b))] [] σ := fun z => kb_10_rows_9 ⟨by unfold rq_rows; rw [if_pos z], am_On.rf, hs⟩
  refine kb_10_rows_0 (kt := fun z => out (Or.inl z)) (kf := fun z0 => ?_)
  refine kb_10_rows_4 (kt := fun z1 => ?_) (kf := fun z => out (Or.inr z))
  have eV : rq_rows y.2.1.1 y.2.2.1 (rq_L N K tb fl nx (tr_rw y.2.1.2 17 [] 0) b) x b = if rq_can y.2.1.1 y.2.2.1 b = true then (if x = 0 then nI (rq_L N K tb fl nx (tr_rw y.2.1.2 17 [] 0) b).length else nI (rl_sum (rq_L N K tb fl nx (tr_rw y.2.1.2 17 [] 0) b))) else -2 := by unfold rq_rows; rw [if_neg (fun z => z.elim z0 (fun z => z z1))]
  rw [eV]
  cases b with
  | true =>
    refine kb_10_rows_11 (kt := fun z => absurd z (by decide)) (kf := fun _ => ?_)
    refine kb_10_rows_15 (hC := sp_10_prepareShort hW h hok hs) (k := fun r τ hr => ?_)
    obtain ⟨rfl, u1, u2, u3⟩ := hr
    by_cases e1 : y.2.2.1 = 1
    · have hc : rq_can y.2.1.1 y.2.2.1 true = true := by unfold rq_can; rw [decide_eq_true (hok.2.2 e1), decide_eq_true e1]; rfl
      rw [decide_eq_true e1, if_pos hc]
      refine kb_10_rows_19 (kt := fun _ => ?_) (kf := fun z => absurd z (show ¬ am_bI true = 0 by decide))
      refine kb_10_rows_25 (kt := fun w => ?_) (kf := fun w => kb_10_rows_29 (k := kb_10_rows_46 ⟨by rw [if_pos w, (u3 e1).2.1]; rfl, u1, u2⟩))
      rw [if_neg w]
      refine kb_10_rows_39 (hC := sp_6_entryCount (u3 e1)) (k := fun r τ' hr => ?_)
      obtain ⟨hτ, rfl⟩ := hr
      subst hτ
      exact kb_10_rows_46 ⟨rfl, u1, u2⟩
    · have hc : rq_can y.2.1.1 y.2.2.1 true = false := by unfold rq_can; rw [decide_eq_false e1]; simp
      rw [decide_eq_false e1, hc]
      exact kb_10_rows_19 (kt := fun z => absurd rfl z) (kf := fun _ => kb_10_rows_22 ⟨rfl, u1, u2⟩)
  | false =>
    refine kb_10_rows_11 (kt := fun _ => ?_) (kf := fun z => absurd rfl z)
    by_cases hn0 : 0 < y.2.1.1
    · have hc : rq_can y.2.1.1 y.2.2.1 false = true := by unfold rq_can; rw [decide_eq_true hn0]; rfl
      rw [if_pos hc]
      obtain ⟨s1, pt, p0, p1, p2⟩ := tr_sb_pt 17 [] (-1) 0 _ (hok.1 hn0) hTr.2.1 ⟨fun c hc => (by cases hc), List.Pairwise.nil⟩ (by decide)
      rw [Nat.sub_zero] at p2
      have eL : rq_L N K tb fl nx (tr_rw y.2.1.2 17 [] 0) false = tr_rl y.2.1.2 pt 0 y.2.1.1 := by rw [p2]; rfl
      rw [eL]
      refine kb_10_rows_47 (hc0 := ht3.k) (kt := fun _ => ?_) (kf := fun z => absurd z (by rw [hTr.2.2.1]; exact nI_ne0 hn0 (by omega)))
      refine kb_10_rows_63 (kt := fun w => ?_) (kf := fun w => ?_)
      · rw [if_neg w]
        refine kb_10_rows_80 (hc0 := ht3.k) (hC := sp_8_depthsSo hTr p1) (k := fun r τ hr => ?_)
        obtain ⟨rfl, rfl⟩ := hr
        exact kb_10_rows_90 ⟨rfl, am_On.rf, hs⟩
      · rw [if_pos w]
        refine kb_10_rows_67 (hc0 := ht3.k) (hC := sp_8_leavesSo (pt := pt) hTr) (k := fun r τ hr => ?_)
        obtain ⟨rfl, rfl⟩ := hr
        exact kb_10_rows_77 (k := kb_10_rows_90 ⟨rfl, am_On.rf, hs⟩)
    · have hc : rq_can y.2.1.1 y.2.2.1 false = false := by unfold rq_can; rw [decide_eq_false hn0]; rfl
      rw [hc]
      have e0 : y.2.1.1 = 0 := by omega
      exact kb_10_rows_47 (hc0 := ht3.k) (kt := fun z => absurd (by rw [hTr.2.2.1, e0]; rfl) z) (kf := fun _ => kb_10_rows_60 ⟨rfl, am_On.rf, hs⟩)
theorem sp_10_row (hW : am_Wo σ N K T tb fl nx) (h : le_D σ 6 y care order tm N) (hok : lr_ok y) (hs : cl_s σ N K tb fl nx y) (x1 x2 : Int32) (b : Bool) : am_C false ya_10_row (d + 5) [.ref (am_oid 0), .int x1, .int x2, .int (am_bI b)] σ (fun r τ => r = some (.int (rq_row y.2.1.1 y.2.2.1 (rq_L N K tb fl nx (tr_rw y.2.1.2 17 [] 0) b) x1 x2 b)) ∧ am_On 14 σ τ ∧ cl_s τ N K tb fl nx y) := by
  obtain ⟨-, hS, -, ht3, -, -, hTr, -, g9, -⟩ := id h
  have hn4 := hTr.2.1
  refine am_enter rfl (by simp [Value.category]) (Nat.le_of_ble_eq_true rfl) ?_
  have out : (x1 < 0 ∨ x2 < 0) → am_T false ya_10_row (d + 5) (fun r τ => r = some (.int (rq_row y.2.1.1 y.2.2.1 (rq_L N K tb fl nx (tr_rw y.2.1.2 17 [] 0) b) x1 x2 b)) ∧ am_On 14 σ τ ∧ cl_s τ N K tb fl nx y) 8 [some (.ref (am_oid 0)), some (.int x1), some (.int x2), some (.int (am_bI b))] [] σ := fun z => kb_10_row_8 ⟨by unfold rq_row; rw [if_pos (z.elim Or.inl (fun z => Or.inr (Or.inl z)))], am_On.rf, hs⟩
  refine kb_10_row_0 (kt := fun z => out (Or.inl z)) (kf := fun z1 => ?_)
  by_cases z2 : x2 < 0
  · refine kb_10_row_4 (kt := fun z => ?_) (kf := fun _ => out (Or.inr z2))
    exfalso
    have a := Int32.lt_iff_toInt_lt.mp z2
    have b := Int32.le_iff_toInt_le.mp z
    omega
  obtain ⟨k0, hk0, rfl⟩ := nI_of z1
  obtain ⟨i0, hi0, rfl⟩ := nI_of z2
  refine kb_10_row_4 (kt := fun _ => ?_) (kf := fun z => absurd (nI_pos' hi0) z)
  have eV : rq_row y.2.1.1 y.2.2.1 (rq_L N K tb fl nx (tr_rw y.2.1.2 17 [] 0) b) (nI k0) (nI i0) b = if rq_can y.2.1.1 y.2.2.1 b = false then -1 else rl_at (rq_L N K tb fl nx (tr_rw y.2.1.2 17 [] 0) b) k0 i0 := by
    unfold rq_row
    by_cases c : rq_can y.2.1.1 y.2.2.1 b = false
    · rw [if_pos (Or.inr (Or.inr c)), if_pos c]
    · rw [if_neg (fun z => by rcases z with z | z | z; exact z1 z; exact z2 z; exact c z), if_neg c, nI_clamp hk0, nI_clamp hi0]
  rw [eV]
  cases b with
  | true =>
    refine kb_10_row_10 (kt := fun z => absurd z (by decide)) (kf := fun _ => ?_)
    refine kb_10_row_14 (hC := sp_10_prepareShort hW h hok hs) (k := fun r τ hr => ?_)
    obtain ⟨rfl, u1, u2, u3⟩ := hr
    by_cases e1 : y.2.2.1 = 1
    · have hc : rq_can y.2.1.1 y.2.2.1 true = true := by unfold rq_can; rw [decide_eq_true (hok.2.2 e1), decide_eq_true e1]; rfl
      obtain ⟨s1, pt, p0, p1, p2⟩ := tr_sb_pt 17 [] (-1) 0 _ (hok.1 (hok.2.2 e1)) hTr.2.1 ⟨fun c hc => (by cases hc), List.Pairwise.nil⟩ (by decide)
      have h0 : ∀ k, rw_ok (rl_f (tr_rw y.2.1.2 17 [] 0) k) ∧ (rl_f (tr_rw y.2.1.2 17 [] 0) k).length ≤ 16 := by rw [← p2]; exact rl_f_ok (tr_rl_ok p1 _ (by omega))
      rw [decide_eq_true e1, hc, if_neg (by decide)]
      refine kb_10_row_18 (kt := fun z => absurd z (show ¬ am_bI true = 0 by decide)) (kf := fun _ => ?_)
      refine kb_10_row_21 (hC := sp_6_entry (u3 e1) h0 hk0 hi0) (k := fun r τ' hr => ?_)
      obtain ⟨hτ, rfl⟩ := hr
      subst hτ
      exact kb_10_row_30 (k := kb_10_row_34 ⟨rfl, u1, u2⟩)
    · have hc : rq_can y.2.1.1 y.2.2.1 true = false := by unfold rq_can; rw [decide_eq_false e1]; simp
      rw [decide_eq_false e1, hc, if_pos rfl]
      exact kb_10_row_18 (kt := fun _ => kb_10_row_33 (k := kb_10_row_34 ⟨rfl, u1, u2⟩)) (kf := fun z => absurd rfl z)
  | false =>
    refine kb_10_row_10 (kt := fun _ => ?_) (kf := fun z => absurd rfl z)
    by_cases hn0 : 0 < y.2.1.1
    · have hc : rq_can y.2.1.1 y.2.2.1 false = true := by unfold rq_can; rw [decide_eq_true hn0]; rfl
      rw [hc, if_neg (by decide)]
      obtain ⟨s1, pt, p0, p1, p2⟩ := tr_sb_pt 17 [] (-1) 0 _ (hok.1 hn0) hTr.2.1 ⟨fun c hc => (by cases hc), List.Pairwise.nil⟩ (by decide)
      rw [Nat.sub_zero] at p2
      have eL : rq_L N K tb fl nx (tr_rw y.2.1.2 17 [] 0) false = tr_rl y.2.1.2 pt 0 y.2.1.1 := by rw [p2]; rfl
      rw [eL]
      refine kb_10_row_35 (hc0 := ht3.k) (kt := fun _ => ?_) (kf := fun z => absurd z (by rw [hTr.2.2.1]; exact nI_ne0 hn0 (by omega)))
      refine kb_10_row_52 (hc0 := ht3.k) (hC := sp_8_rowEntry hTr p1 p0 hk0 hi0) (k := fun r τ hr => ?_)
      obtain ⟨rfl, rfl⟩ := hr
      exact kb_10_row_64 ⟨rfl, am_On.rf, hs⟩
    · have hc : rq_can y.2.1.1 y.2.2.1 false = false := by unfold rq_can; rw [decide_eq_false hn0]; rfl
      rw [hc, if_pos rfl]
      have e0 : y.2.1.1 = 0 := by omega
      exact kb_10_row_35 (hc0 := ht3.k) (kt := fun z => absurd (by rw [hTr.2.2.1, e0]; rfl) z) (kf := fun _ => kb_10_row_48 (k := kb_10_row_64 ⟨rfl, am_On.rf, hs⟩))
theorem sp_10_shortMany (hW : am_Wo σ N K T tb fl nx) (h : le_D σ 6 y care order tm N) (hok : lr_ok y) (hs : cl_s σ N K tb fl nx y) : am_C false ya_10_shortMany (d + 5) [.ref (am_oid 0)] σ (fun r τ => r = some (.int (if rq_can y.2.1.1 y.2.2.1 true = true then nI (sw_n N K tb fl nx (tr_rw y.2.1.2 17 [] 0)) else -2)) ∧ am_On 14 σ τ ∧ cl_s τ N K tb fl nx y) := by
  refine am_enter rfl (by simp [Value.category]) (Nat.le_of_ble_eq_true rfl) ?_
  refine kb_10_shortMany_0 (hC := sp_10_prepareShort hW h hok hs) (k := fun r τ hr => ?_)
  obtain ⟨rfl, u1, u2, u3⟩ := hr
  by_cases e1 : y.2.2.1 = 1
  · have hc : rq_can y.2.1.1 y.2.2.1 true = true := by unfold rq_can; rw [decide_eq_true (hok.2.2 e1), decide_eq_true e1]; rfl
    rw [decide_eq_true e1, if_pos hc]
    refine kb_10_shortMany_4 (kt := fun z => absurd z (show ¬ am_bI true = 0 by decide)) (kf := fun _ => ?_)
    refine kb_10_shortMany_7 (hC := sp_6_heldStates (u1.wo (by decide) hW) (u3 e1)) (k := fun r τ' hr => ?_)
    obtain ⟨hτ, rfl⟩ := hr
    subst hτ
    exact kb_10_shortMany_14 (k := kb_10_shortMany_19 ⟨rfl, u1, u2⟩)
  · have hc : rq_can y.2.1.1 y.2.2.1 true = false := by unfold rq_can; rw [decide_eq_false e1]; simp
    rw [decide_eq_false e1, hc]
    exact kb_10_shortMany_4 (kt := fun _ => kb_10_shortMany_17 (k := kb_10_shortMany_19 ⟨rfl, u1, u2⟩)) (kf := fun z => absurd rfl z)
theorem sp_10_isWay (x1 x2 : Int32) : am_C false ya_10_isWay d [.int x1, .int x2] σ (fun r τ => τ = σ ∧ r = some (.int (am_bI (v_way x1 x2).isSome))) := by
  refine am_enter rfl (by simp [Value.category]) (Nat.le_of_ble_eq_true rfl) ?_
  have out : (x1 < 0 ∨ 1 < x1 ∨ x2 < 0 ∨ 1 < x2) → am_T false ya_10_isWay d (fun r τ => τ = σ ∧ r = some (.int (am_bI (v_way x1 x2).isSome))) 22 [some (.int x1), some (.int x2)] [] σ := fun z => kb_10_isWay_22 (k := kb_10_isWay_23 (hb0 := rfl) (hq := ⟨rfl, by unfold v_way; rw [if_pos z]; rfl⟩))
  refine kb_10_isWay_0 (kt := fun z => out (Or.inl z)) (kf := fun z1 => ?_)
  refine kb_10_isWay_4 (kt := fun z => out (Or.inr (Or.inl z))) (kf := fun z2 => ?_)
  refine kb_10_isWay_9 (kt := fun z => out (Or.inr (Or.inr (Or.inl z)))) (kf := fun z3 => ?_)
  refine kb_10_isWay_13 (kt := fun z => out (Or.inr (Or.inr (Or.inr z)))) (kf := fun z4 => ?_)
  refine kb_10_isWay_18 (k := kb_10_isWay_23 (hb0 := rfl) (hq := ⟨rfl, ?_⟩))
  unfold v_way; rw [if_neg (fun z => by rcases z with z | z | z | z; exact z1 z; exact z2 z; exact z3 z; exact z4 z)]; rfl
def v_ways (care order : Bool) (x1 x2 : Int32) : Bool × Bool × Int32 := match v_way x1 x2 with
  | none => (care, order, -1)
  | some c => (c.1, c.2, 2 * am_bI care + am_bI order)
theorem sp_10_ways (h : le_D σ 6 y care order tm N) (x1 x2 : Int32) : am_C false ya_10_ways (d + 1) [.ref (am_oid 0), .int x1, .int x2] σ (fun r τ => r = some (.int (v_ways care order x1 x2).2.2) ∧ le_D τ 6 y (v_ways care order x1 x2).1 (v_ways care order x1 x2).2.1 tm N ∧ le_Fr 6 σ τ) := by
  obtain ⟨c1, c2, c3, c4, c5, c6, c7, c8, g9, g10, g11, g12, g13, g6, g7, g8⟩ := id h
  refine am_enter rfl (by simp [Value.category]) (Nat.le_of_ble_eq_true rfl) ?_
  refine kb_10_ways_0 (hC := sp_10_isWay x1 x2) (k := fun r τ hr => ?_)
  obtain ⟨rfl, rfl⟩ := hr
  cases hw : v_way x1 x2 with
  | none =>
    have e : v_ways care order x1 x2 = (care, order, -1) := by unfold v_ways; rw [hw]
    rw [e]
    exact kb_10_ways_5 (kt := fun z => absurd rfl z) (kf := fun _ => kb_10_ways_8 ⟨rfl, h, le_Fr.rf⟩)
  | some c =>
    have e : v_ways care order x1 x2 = (c.1, c.2, 2 * am_bI care + am_bI order) := by unfold v_ways; rw [hw]
    rw [e]
    obtain ⟨e1, e2⟩ := v_way_some hw
    refine kb_10_ways_5 (kt := fun _ => ?_) (kf := fun z => absurd z (show ¬ am_bI true = 0 by decide))
    refine kb_10_ways_10 (hq := ⟨by rw [g6, g7], ?_, fun o ho => ⟨fun k => ?_, fun k => rfl, rfl, fun k => rfl⟩⟩)
    · have hx : ∀ k, k ≠ 6 → k ≠ 7 → am_I (am_sI (am_sI τ 6 6 x1) 6 7 x2) 6 k = am_I τ 6 k := fun k a b => by rw [am_I_sI, if_neg (fun z => b z.1), am_I_sI, if_neg (fun z => a z.1)]
      have hy : ∀ o k, o ≠ 6 → am_I (am_sI (am_sI τ 6 6 x1) 6 7 x2) o k = am_I τ o k := fun o k a => by rw [am_I_sI, if_neg (fun z => a z.2), am_I_sI, if_neg (fun z => a z.2)]
      refine ⟨c1, am_Sm.same c2 (fun k _ => hy 8 k (by decide)) (fun k _ => rfl), c3, c4, c5, c6, c7.same (hy _ 0 c4.ne.1) (fun k => rfl), c8, ?_, ?_, ?_, ?_, ?_, ?_, ?_, ?_⟩
      · rw [hx 9 (by decide) (by decide)]; exact g9
      · rw [hx 10 (by decide) (by decide)]; exact g10
      · rw [hx 11 (by decide) (by decide)]; exact g11
      · rw [hx 12 (by decide) (by decide)]; exact g12
      · rw [hx 13 (by decide) (by decide)]; exact g13
      · rw [am_I_sI, if_neg (by simp), am_I_sI, if_pos ⟨rfl, rfl⟩]; exact e1
      · rw [am_I_sI, if_pos ⟨rfl, rfl⟩]; exact e2
      · rw [hx 8 (by decide) (by decide)]; exact g8
    · rw [am_I_sI, if_neg (fun z => ho (Or.inl z.2)), am_I_sI, if_neg (fun z => ho (Or.inl z.2))]
theorem sp_1_begin {L : Nat} (hL : L = 6 ∨ L = 7) (h3 : le_tr L (am_R σ L 3)) (h4 : le_tr L (am_R σ L 4)) (hne : am_R σ L 3 ≠ am_R σ L 4) (c o : Bool) (tm : Int32) : am_C false ya_1_begin (d + 2) [.ref (am_oid L), .int (am_bI c), .int (am_bI o), .int tm] σ (fun r τ => r = none ∧ le_D τ L lr_0 c o tm N ∧ le_Fr L σ τ) := by
  obtain ⟨c1, e0, e1, e2, c9, c0, c5⟩ := le_lk hL
  refine am_enter rfl (by simp [Value.category]) (Nat.le_of_ble_eq_true rfl) ?_
  refine kb_1_begin_0 (hc0 := c1) (hc1 := c5) (hC := by rw [e2]; exact sp_5_clear _ (by rw [← e2]; exact c5)) (k := fun r τ hr => ?_)
  obtain ⟨rfl, hτ⟩ := hr
  have hR : ∀ k, am_R τ L k = am_R σ L k := fun k => by rw [hτ]; rfl
  refine kb_1_begin_22 (hc0 := c1) (hc1 := by rw [hR]; exact h3.k) (hC := sp_1_bring hL) (k := fun r τ' hr => ?_)
  obtain ⟨rfl, hτ'⟩ := hr
  have n3 := h3.ne
  have hL2 : L ≠ L + 2 := by omega
  rw [hR] at hτ'
  obtain ⟨t, ht⟩ : ∃ t, t = am_R σ L 3 := ⟨_, rfl⟩
  rw [← ht] at hτ' n3 h3 hne
  have iL : ∀ k, am_I τ' L k = if k = 13 then -2 else if k = 12 then -2 else if k = 11 then 0 else if k = 10 then 0 else if k = 9 then 0 else if k = 8 then tm else if k = 7 then am_bI o else if k = 6 then am_bI c else am_I σ L k := fun k => by
    rw [hτ', hτ]
    unfold sm_clear
    simp only [am_I_sI, am_I_sA, and_true]
    by_cases q1 : k = 13
    · simp [q1]
    · by_cases q2 : k = 12
      · simp [q2]
      · by_cases q3 : k = 11
        · simp [q3]
        · by_cases q4 : k = 10
          · simp [q4]
          · by_cases q5 : k = 9
            · simp [q5]
            · have z1 : ¬ (k = 0 ∧ L = t) := fun z => n3.1 z.2.symm
              have z2 : ¬ (k = 1 ∧ L = L + 2) := fun z => hL2 z.2
              have z3 : ¬ (k = 0 ∧ L = L + 2) := fun z => hL2 z.2
              simp only [q1, q2, q3, q4, q5, z1, z2, z3, if_false]
  have iO : ∀ q k, q ≠ L → q ≠ L + 2 → q ≠ t → am_I τ' q k = am_I σ q k := fun q k a b e => by
    rw [hτ', hτ]
    unfold sm_clear
    simp [am_I_sI, am_I_sA, a, b, e]
  have aO : ∀ q k, q ≠ L + 2 → am_A τ' q k = am_A σ q k := fun q k b => by
    rw [hτ', hτ]
    unfold sm_clear
    simp [am_A_sI, am_A_sA, b]
  have rO : τ'.2.2 = σ.2.2 := by rw [hτ', hτ]; rfl
  have rR : ∀ q k, am_R τ' q k = am_R σ q k := fun q k => by unfold am_R; rw [rO]
  have hSm : am_Sm τ' (L + 2) 0 0 (fun _ => 0) (fun _ => 0) (fun _ => 0) (fun _ => 0) := by
    have := sm_clear_ok (am_sI (am_sI (am_sI σ L 6 (am_bI c)) L 7 (am_bI o)) L 8 tm) (L + 2) (by rw [← e2]; exact c5) (fun _ => 0) (fun _ => 0) (fun _ => 0) (fun _ => 0)
    rw [← hτ] at this
    refine this.same (fun k _ => ?_) (fun k _ => by rw [hτ']; rfl)
    rw [hτ']
    have a1 : ¬ (L + 2 = L) := by omega
    have a2 : ¬ (L + 2 = t) := fun z => n3.2.1 z.symm
    simp [am_I_sI, a1, a2]
  refine kb_1_begin_49 (hq := ⟨rfl, ⟨hL, hSm, fun i hi => absurd hi (Nat.not_lt_zero i), by rw [rR, ← ht]; exact h3, by rw [rR]; exact h4, by rw [rR, rR, ← ht]; exact hne, ⟨by rw [rR, ← ht]; exact h3.k, Nat.zero_le _, ?_, fun i hi => absurd hi (Nat.not_lt_zero i)⟩, fun i hi => absurd hi (Nat.not_lt_zero i), ?_, ?_, ?_, ?_, ?_, ?_, ?_, ?_⟩, fun q hq => ⟨fun k => iO q k (fun z => hq (Or.inl z)) (fun z => hq (Or.inr (Or.inl z))) (fun z => hq (Or.inr (Or.inr (Or.inr (by rw [z]; exact h3))))), fun k => aO q k (fun z => hq (Or.inr (Or.inl z))), by unfold am_J; rw [rO], fun k => rR q k⟩⟩)
  · rw [rR, ← ht, hτ']
    have a1 : ¬ (t = L) := n3.1
    simp [am_I_sI, a1]
    rfl
  all_goals (rw [iL]; rfl)
theorem le_Fr.eo {L o : Nat} {σ τ : am_St} (h : le_Fr L σ τ) (ho : ¬ le_own L o) : am_Eo o σ τ := h o ho
theorem sp_10_trialFact (hW : am_Wo σ N K T tb fl nx) (h7 : cl_7 σ) (hca : cl_ca σ N K T tb fl nx) (c o : Bool) {w : Option Nat} (hw : ∀ t, w = some t → t < T) {j : Nat} (hj : j < 4) : am_C false ya_10_trialFact (d + 6) [.ref (am_oid 0), .int (am_bI c), .int (am_bI o), .int (am_oI (-1) w), .int (nI j)] σ (fun r τ => r = some (.int (lf_f (lf_y N K T tb fl nx c o w) j)) ∧ fr_T σ τ ∧ cl_7 τ ∧ cl_ca τ N K T tb fl nx) := by
  have hT := hW.2.2.1
  obtain ⟨wy, hwy⟩ : ∃ wy, wy = lf_way c o w := ⟨_, rfl⟩
  have hwl : wy < 68 := by rw [hwy]; exact lf_way_lt hT hw
  have ew : ((2 * am_bI c + am_bI o) * 17 + am_oI (-1) w + 1 : Int32) = nI wy := by
    rw [hwy, ← am_bN_I, ← am_bN_I, show (2 : Int32) = nI 2 from rfl, show (17 : Int32) = nI 17 from rfl, nI_mul, nI_add, nI_mul]
    unfold lf_way
    cases w with
    | none => show nI _ + (-1) + 1 = nI (_ + 0); rw [Int32.add_assoc]; exact Int32.add_zero _
    | some t => show nI _ + nI t + 1 = nI (_ + (t + 1)); rw [nI_add, nI_1]; rfl
  have vw : vp_in (nI wy) 68 := vp_in_nI hwl (by omega)
  have cw : (nI wy).toNatClampNeg = wy := nI_clamp (by omega)
  have e4 : nI wy * 4 = nI (4 * wy) := by rw [show (4 : Int32) = nI 4 from rfl, nI_mul, Nat.mul_comm]
  have fin : ∀ (τ : am_St) (a1 a2 a3 a5 a7 : Option Value), (∀ j, j < 4 → am_A τ 0 12 (4 * wy + j) = lf_f (lf_y N K T tb fl nx c o w) j) → fr_T σ τ → cl_7 τ → cl_ca τ N K T tb fl nx → am_T false ya_10_trialFact (d + 6) (fun r τ => r = some (.int (lf_f (lf_y N K T tb fl nx c o w) j)) ∧ fr_T σ τ ∧ cl_7 τ ∧ cl_ca τ N K T tb fl nx) 176 [some (.ref (am_oid 0)), a1, a2, a3, some (.int (nI j)), a5, some (.int (nI (4 * wy))), a7] [] τ := fun τ a1 a2 a3 a5 a7 hf h1 h2 h3 => by
    refine kb_10_trialFact_176 (hi0 := by rw [nI_add]; exact vp_in_nI (by omega) (by omega)) (hq := ⟨?_, h1, h2, h3⟩)
    rw [nI_add, nI_clamp (by omega), hf j hj]
  refine am_enter rfl (by simp [Value.category]) (Nat.le_of_ble_eq_true rfl) ?_
  refine kb_10_trialFact_0 (kt := fun z => absurd z (by rw [ew]; exact nI_pos (by omega))) (kf := fun _ => ?_)
  rw [ew]
  refine kb_10_trialFact_19 (kt := fun z => absurd z (by rw [show (68 : Int32) = nI 68 from rfl]; exact nI_ge (by omega) (by omega))) (kf := fun _ => ?_)
  refine kb_10_trialFact_26 (kt := fun z => absurd z (nI_pos (by omega))) (kf := fun _ => ?_)
  refine kb_10_trialFact_31 (kt := fun _ => ?_) (kf := fun z => absurd (by rw [show (4 : Int32) = nI 4 from rfl]; exact nI_lt hj (by omega)) z)
  have hcc := hca c o w hw
  rw [← hwy] at hcc
  rcases hcc with h0 | ⟨h1, hf⟩
  rotate_left
  · refine kb_10_trialFact_39 (hi0 := vw) (kt := fun _ => ?_) (kf := fun z => absurd z (by rw [cw, h1]; decide))
    rw [e4]
    exact fin σ _ _ _ _ _ hf fr_T.rf h7 hca
  refine kb_10_trialFact_39 (hi0 := vw) (kt := fun z => absurd (by rw [cw, h0]) z) (kf := fun _ => ?_)
  rw [e4]
  refine kb_10_trialFact_55 (hC := sp_9_allTests hW) (k := fun r τ hr => ?_)
  obtain ⟨rfl, rfl⟩ := hr
  have go : ∀ a7 : Option Value, am_T false ya_10_trialFact (d + 6) (fun r τ' => r = some (.int (lf_f (lf_y N K T tb fl nx c o w) j)) ∧ fr_T τ τ' ∧ cl_7 τ' ∧ cl_ca τ' N K T tb fl nx) 87 [some (.ref (am_oid 0)), some (.int (am_bI c)), some (.int (am_bI o)), some (.int (am_oI (-1) w)), some (.int (nI j)), some (.int (nI wy)), some (.int (nI (4 * wy))), a7] [.int (lf_m T w), .int (am_bI o), .int (am_bI c), .ref (am_oid 7)] τ := fun a7 => by
    refine kb_10_trialFact_87 (hC := sp_1_begin (N := N) (L := 7) (Or.inr rfl) h7.1 h7.2.1 h7.2.2 c o (lf_m T w)) (k := fun r τ1 hr => ?_)
    obtain ⟨rfl, u1, u2⟩ := hr
    have W1 : am_Wo τ1 N K T tb fl nx := le_Fr.wo (Or.inr rfl) u2 hW
    refine kb_10_trialFact_90 (hC := sp_1_doRounds (m := 100) (Nat.le_refl _) u1 W1) (k := fun r τ2 hr => ?_)
    obtain ⟨rfl, v1, v2⟩ := hr
    have ey : (lr_rds N K T tb fl nx (fun t => bt (lf_m T w) t) c o 100 lr_0).1 = lf_y N K T tb fl nx c o w := rfl
    rw [ey] at v1
    obtain ⟨Y, hY⟩ : ∃ Y, Y = lf_y N K T tb fl nx c o w := ⟨_, rfl⟩
    rw [← hY] at v1
    obtain ⟨-, s2, -, t3, t4, t5, t6, -, g9, g10, -⟩ := id v1
    have i9 : am_I τ2 9 0 = nI Y.1.1 := s2.2.2.2.1
    have hF := u2.tr v2
    have n0 : ¬ le_own 7 0 := (le_own4 (Or.inr rfl)).2
    have E0 := hF 0 n0
    have v1' : vp_in (nI (4 * wy)) 272 := vp_in_nI (by omega) (by omega)
    have v2' : vp_in (nI (4 * wy) + 1) 272 := by rw [nI_1]; exact vp_in_nI (by omega) (by omega)
    have v3' : vp_in (nI (4 * wy) + 2) 272 := by rw [show (2 : Int32) = nI 2 from rfl, nI_add]; exact vp_in_nI (by omega) (by omega)
    have v4' : vp_in (nI (4 * wy) + 3) 272 := by rw [show (3 : Int32) = nI 3 from rfl, nI_add]; exact vp_in_nI (by omega) (by omega)
    refine kb_10_trialFact_99 (hi0 := v1') (hi1 := v2') (hi2 := v3') (hc0 := t3.k) (hi3 := v4') (hi4 := vw) (k := ?_)
    rw [cw, show vp_nar .boolean 1 = 1 from vp_nar_bI true, show (3 : Int32) = nI 3 from rfl, show (2 : Int32) = nI 2 from rfl, nI_1, nI_add, nI_add, nI_clamp (show 4 * wy < 2 ^ 31 by omega), nI_clamp (show 4 * wy + 1 < 2 ^ 31 by omega), nI_clamp (show 4 * wy + 2 < 2 ^ 31 by omega), nI_clamp (show 4 * wy + 3 < 2 ^ 31 by omega), am_sA_sA, am_sA_sA, am_sA_sA]
    obtain ⟨F, hFe⟩ : ∃ F, F = upd (upd (upd (upd (am_A τ2 0 12) (4 * wy) (am_I τ2 7 9)) (4 * wy + 1) (am_I τ2 7 10)) (4 * wy + 2) (am_I τ2 9 0)) (4 * wy + 3) (am_I τ2 (am_R τ2 7 3) 0) := ⟨_, rfl⟩
    rw [← hFe]
    have Ff : ∀ j, j < 4 → F (4 * wy + j) = lf_f Y j := fun j hj => by
      rw [hFe]
      unfold lf_f
      rcases (show j = 0 ∨ j = 1 ∨ j = 2 ∨ j = 3 by omega) with rfl | rfl | rfl | rfl
      · rw [upd_n (by omega), upd_n (by omega), upd_n (by omega), Nat.add_zero, upd_s]; exact g9
      · rw [upd_n (by omega), upd_n (by omega), upd_s]; exact g10
      · rw [upd_n (by omega), upd_s]; exact i9
      · rw [upd_s]; exact t6.2.2.1
    have Fn : ∀ k, k < 4 * wy ∨ 4 * wy + 4 ≤ k → F k = am_A τ 0 12 k := fun k hk => by
      rw [hFe, upd_n (by omega), upd_n (by omega), upd_n (by omega), upd_n (by omega), E0.2.1]
    obtain ⟨υ, hυ⟩ : ∃ υ, υ = am_sA (am_sA τ2 0 12 F) 0 13 (upd (am_A τ2 0 13) wy 1) := ⟨_, rfl⟩
    rw [← hυ]
    have a12 : am_A υ 0 12 = F := by rw [hυ, am_A_sA, if_neg (by simp), am_A_sA, if_pos ⟨rfl, rfl⟩]
    have a13 : am_A υ 0 13 = upd (am_A τ2 0 13) wy 1 := by rw [hυ, am_A_sA, if_pos ⟨rfl, rfl⟩]
    rw [hY] at Ff
    refine fin υ _ _ _ _ _ (by rw [a12]; exact Ff) ⟨fun q hq hq0 => ?_, fun k => ?_, fun k h1 h2 => ?_⟩ ⟨?_, ?_, ?_⟩ (fun c' o' w' hw' => ?_)
    · have := hF q hq
      refine ⟨fun k => by rw [hυ]; exact this.1 k, fun k => by rw [hυ, am_A_sA, if_neg (fun z => hq0 z.2), am_A_sA, if_neg (fun z => hq0 z.2)]; exact this.2.1 k, by rw [hυ]; exact this.2.2.1, fun k => by rw [hυ]; exact this.2.2.2 k⟩
    · rw [hυ]; exact E0.1 k
    · rw [hυ, am_A_sA, if_neg (fun z => h2 z.1), am_A_sA, if_neg (fun z => h1 z.1)]; exact E0.2.1 k
    · rw [hυ]; exact t3
    · rw [hυ]; exact t4
    · rw [hυ]; exact t5
    · rw [a12, a13]
      by_cases e : lf_way c' o' w' = wy
      · obtain ⟨z1, z2, z3⟩ := lf_way_inj hT hw' hw (e.trans hwy)
        subst z1; subst z2; subst z3
        rw [e, upd_s]
        exact Or.inr ⟨rfl, Ff⟩
      · rw [upd_n e, E0.2.1]
        rcases hca c' o' w' hw' with z | ⟨z1, z2⟩
        · exact Or.inl z
        · exact Or.inr ⟨z1, fun j hj => by rw [Fn _ (by omega)]; exact z2 j hj⟩
  cases w with
  | none => exact kb_10_trialFact_62 (kt := fun z => absurd z (show ¬ (0 : Int32) ≤ -1 by decide)) (kf := fun _ => kb_10_trialFact_74 (k := go _))
  | some t => exact kb_10_trialFact_62 (kt := fun _ => kb_10_trialFact_79 (k := go _)) (kf := fun z => absurd (nI_pos' (by have := hw t rfl; omega)) z)
end CT
