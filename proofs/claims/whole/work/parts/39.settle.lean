/-! Fitter.kindHere -/
def ft_kd (care nb ng : Bool) : Int32 := if care = true then (if ng = true then 0 else if nb = true then 1 else 2) else (if nb = true then 1 else if ng = true then 0 else 2)
def ft_no (P : Nat) (S b : Nat → Bool) : Bool := am_cn (fun i => S i && b i) P == 0
theorem am_lb_or (g b g' b' : Bool) : am_lb g b ||| am_lb g' b' = am_lb (g || g') (b || b') := by cases g <;> cases b <;> cases g' <;> cases b' <;> decide
theorem am_lb_and (g b : Bool) : ((am_lb g b &&& 2 = 0) = (b = false)) ∧ ((am_lb g b &&& 1 = 0) = (g = false)) := by cases g <;> cases b <;> decide
theorem am_rc_ne (f : Nat → Bool) (u n : Nat) : (!(am_rc f u (n + 1) == 0)) = ((!(am_rc f u n == 0)) || f (u + n)) := by
  show (!((am_rc f u n + (if f (u + n) = true then 1 else 0)) == 0)) = _
  cases h : f (u + n) <;> simp
theorem sp_0_kindHere {d P u v pu pv q : Nat} {fs sn : Nat → Nat} {care : Bool} {S g b : Nat → Bool} {σ : am_St} (hP : P ≤ 200) (hN : ft_Nd σ u v pu pv P q fs sn S) (hL : ft_Lb σ P g b) :
    am_C false ya_0_kindHere d [.ref (am_oid 5), .int (am_bI care)] σ (fun r τ => τ = σ ∧ r = some (.int (ft_kd care (ft_no P S b) (ft_no P S g)))) := by
  obtain ⟨n1, n2, -, -, n5, -, n7, -⟩ := hN
  generalize hQ : (fun (r : Option Value) (τ : am_St) => τ = σ ∧ r = some (.int (ft_kd care (ft_no P S b) (ft_no P S g)))) = Q
  have huv := n7.1
  obtain ⟨ix, hix⟩ : ∃ ix : Nat → Nat, ix = fun j => (am_A σ 5 3 j).toNatClampNeg := ⟨_, rfl⟩
  have hat : ∀ j, u ≤ j → j < v → am_A σ 5 3 j = nI (ix j) ∧ ix j < P := fun j c1 c2 => by
    obtain ⟨i, e1, e2, -⟩ := n7.2.1 j c1 c2
    rw [hix]
    simp only [e2, nI_clamp (show i < 2 ^ 31 by omega)]
    exact ⟨trivial, e1⟩
  have conv : ∀ (p f : Nat → Bool), (∀ j, f j = p (ix j)) → am_rc f u (v - u) = am_cn (fun i => S i && p i) P := fun p f hf => by
    refine am_En_cn (by omega) (v - u) (by rw [show u + (v - u) = v by omega]; exact n7) (fun j i c1 c2 c3 c4 => ?_)
    rw [hf j, hix]
    simp only [c3, nI_clamp (show i < 2 ^ 31 by omega)]
  have loop : ∀ (j i : Nat), i + j = v - u → ∀ (a4 : Option Value), am_T false ya_0_kindHere d Q 7 [some (.ref (am_oid 5)), some (.int (am_bI care)), some (.int (am_lb (!(am_rc (fun j => g (ix j)) u i == 0)) (!(am_rc (fun j => b (ix j)) u i == 0)))), some (.int (nI (u + i))), a4] [] σ := by
    intro j
    induction j with
    | zero =>
      intro i hi a4
      have : i = v - u := by omega
      subst this
      rw [conv g _ (fun _ => rfl), conv b _ (fun _ => rfl)]
      have e1 : (am_cn (fun i => S i && g i) P == 0) = ft_no P S g := rfl
      have e2 : (am_cn (fun i => S i && b i) P == 0) = ft_no P S b := rfl
      rw [e1, e2]
      -- behind the loop
      have fin2 : ∀ (nb ng : Bool), nb = ft_no P S b → ng = ft_no P S g → ∀ (a2 : Option Value), am_T false ya_0_kindHere d Q 58 [some (.ref (am_oid 5)), some (.int (am_bI care)), a2, some (.int (am_bI nb)), a4] [.int (am_bI ng)] σ := by
        intro nb ng h1 h2 a2
        have hq : Q (some (.int (ft_kd care nb ng))) σ := by rw [← hQ, h1, h2]; exact ⟨rfl, rfl⟩
        cases care <;> cases nb <;> cases ng
        · exact kb_0_kindHere_58 (kt := fun c => absurd rfl c) (kf := fun _ => kb_0_kindHere_64 (kt := fun _ => kb_0_kindHere_72 (kt := fun _ => kb_0_kindHere_81 (k := kb_0_kindHere_82 hq)) (kf := fun c => absurd rfl c)) (kf := fun c => absurd rfl c))
        · exact kb_0_kindHere_58 (kt := fun c => absurd rfl c) (kf := fun _ => kb_0_kindHere_64 (kt := fun _ => kb_0_kindHere_72 (kt := fun c => absurd c (by decide)) (kf := fun _ => kb_0_kindHere_77 (k := kb_0_kindHere_82 hq))) (kf := fun c => absurd rfl c))
        · exact kb_0_kindHere_58 (kt := fun c => absurd rfl c) (kf := fun _ => kb_0_kindHere_64 (kt := fun c => absurd c (by decide)) (kf := fun _ => kb_0_kindHere_68 (k := kb_0_kindHere_82 hq)))
        · exact kb_0_kindHere_58 (kt := fun c => absurd rfl c) (kf := fun _ => kb_0_kindHere_64 (kt := fun c => absurd c (by decide)) (kf := fun _ => kb_0_kindHere_68 (k := kb_0_kindHere_82 hq)))
        · exact kb_0_kindHere_58 (kt := fun _ => kb_0_kindHere_83 (kt := fun _ => kb_0_kindHere_92 (kt := fun _ => kb_0_kindHere_100 (k := kb_0_kindHere_101 hq)) (kf := fun c => absurd rfl c)) (kf := fun c => absurd rfl c)) (kf := fun c => absurd c (by decide))
        · exact kb_0_kindHere_58 (kt := fun _ => kb_0_kindHere_83 (kt := fun c => absurd c (by decide)) (kf := fun _ => kb_0_kindHere_88 (k := kb_0_kindHere_101 hq))) (kf := fun c => absurd c (by decide))
        · exact kb_0_kindHere_58 (kt := fun _ => kb_0_kindHere_83 (kt := fun _ => kb_0_kindHere_92 (kt := fun c => absurd c (by decide)) (kf := fun _ => kb_0_kindHere_96 (k := kb_0_kindHere_101 hq))) (kf := fun c => absurd rfl c)) (kf := fun c => absurd c (by decide))
        · exact kb_0_kindHere_58 (kt := fun _ => kb_0_kindHere_83 (kt := fun c => absurd c (by decide)) (kf := fun _ => kb_0_kindHere_88 (k := kb_0_kindHere_101 hq))) (kf := fun c => absurd c (by decide))
      have fin1 : ∀ (nb : Bool), nb = ft_no P S b → am_T false ya_0_kindHere d Q 46 [some (.ref (am_oid 5)), some (.int (am_bI care)), some (.int (am_lb (!ft_no P S g) (!ft_no P S b))), some (.int (nI (u + (v - u)))), a4] [.int (am_bI nb)] σ := by
        intro nb h1
        refine kb_0_kindHere_46 (kt := fun c => ?_) (kf := fun c => ?_)
        · rw [(am_lb_and _ _).2] at c
          exact kb_0_kindHere_57 (k := fin2 nb false h1 (by simpa using c) _)
        · rw [(am_lb_and _ _).2] at c
          exact kb_0_kindHere_53 (k := fin2 nb true h1 (by simpa using c) _)
      refine kb_0_kindHere_7 (kt := fun _ => ?_) (kf := fun c => absurd ?_ c)
      · refine kb_0_kindHere_35 (kt := fun c => ?_) (kf := fun c => ?_)
        · rw [(am_lb_and _ _).1] at c
          exact kb_0_kindHere_45 (k := fin1 false (by simpa using c))
        · rw [(am_lb_and _ _).1] at c
          exact kb_0_kindHere_41 (k := fin1 true (by simpa using c))
      · rw [n2]; exact nI_le (by omega) (by omega)
    | succ j ih =>
      intro i hi a4
      obtain ⟨e1, e2⟩ := hat (u + i) (by omega) (by omega)
      have c0 : am_A σ 5 3 (nI (u + i)).toNatClampNeg = nI (ix (u + i)) := by rw [nI_clamp (by omega)]; exact e1
      refine kb_0_kindHere_7 (kt := fun c => absurd c ?_) (kf := fun _ => ?_)
      · rw [n2]; exact nI_ge (by omega) (by omega)
      · refine kb_0_kindHere_15 (hi0 := vp_in_nI (by omega) (by omega)) (hi1 := by rw [c0]; exact vp_in_nI (by omega) (by omega)) (k := ?_)
        rw [c0, nI_clamp (show ix (u + i) < 2 ^ 31 by omega), hL _ e2, am_lb_or, nI_1]
        have := ih (i + 1) (by omega) a4
        rw [am_rc_ne, am_rc_ne] at this
        exact this
  refine am_enter rfl (by simp [Value.category]) (Nat.le_of_ble_eq_true rfl) (kb_0_kindHere_0 (k := ?_))
  rw [n1]
  exact loop (v - u) 0 (by omega) _
/-! Fitter.settle -/
theorem am_or_or {w : Int32} {g g' : Nat → Bool} {L : Nat → Int32} (h : ∀ i, g i = true → g' i = true) : am_or w g' (am_or w g L) = am_or w g' L := by
  funext i
  unfold am_or
  by_cases e : g' i = true
  · rw [if_pos e, if_pos e]
    by_cases e2 : g i = true
    · rw [if_pos e2, Int32.or_assoc, Int32.or_self]
    · rw [if_neg e2]
  · rw [if_neg e, if_neg e, if_neg (fun z => e (h i z))]
theorem sp_St_St {σ : am_St} {o : Nat} {w : Int32} {g g' : Nat → Bool} {qf qf' : Nat → Int32} (h : ∀ i, g i = true → g' i = true) : sp_St (sp_St σ o w g qf) o w g' qf' = sp_St σ o w g' qf' := by
  show am_sA (am_sA (sp_St σ o w g qf) 5 1 (am_or w g' (am_A (sp_St σ o w g qf) 5 1))) o 11 qf' = _
  rw [sp_St_L, am_or_or h]
  show am_sA (am_sA (am_sA (am_sA σ 5 1 _) o 11 qf) 5 1 _) o 11 qf' = am_sA (am_sA σ 5 1 _) o 11 qf'
  rw [am_sA_comm _ o 11 5 1 _ _ (by simp), am_sA_sA, am_sA_sA]
/-- the first n of a range, as a set -/
def am_rg (ix : Nat → Nat) (u : Nat) : Nat → Nat → Bool
  | 0 => fun _ => false
  | n + 1 => fun i => am_rg ix u n i || i == ix (u + n)
theorem am_rg_iff (ix : Nat → Nat) (u n i : Nat) : am_rg ix u n i = true ↔ ∃ j, u ≤ j ∧ j < u + n ∧ ix j = i := by
  induction n with
  | zero => simp [am_rg]; intro j h1 h2; omega
  | succ n ih =>
    unfold am_rg
    rw [Bool.or_eq_true_iff, ih, beq_iff_eq]
    constructor
    · rintro (⟨j, h1, h2, h3⟩ | h)
      · exact ⟨j, h1, by omega, h3⟩
      · exact ⟨u + n, by omega, by omega, h.symm⟩
    · rintro ⟨j, h1, h2, h3⟩
      by_cases e : j = u + n
      · exact Or.inr (by rw [← h3, e])
      · exact Or.inl ⟨j, h1, by omega, h3⟩
theorem sp_0_settle {d o P q u v pu pv : Nat} {w x4 : Int32} {fh fn ft : Nat} {st td fs sn a b : Nat → Nat} {S S0 : Nat → Bool} {σ : am_St} (hS : am_Sm σ o P q st td fs sn) (hN : ft_Nd σ u v pu pv P q fs sn S)
    (hL : ∀ i, i < P → am_A σ 5 1 i = 0 ∨ am_A σ 5 1 i = 1 ∨ am_A σ 5 1 i = 2 ∨ am_A σ 5 1 i = 3) (h0 : ∀ i, i < P → S0 i = am_bt w (am_A σ 5 1 i)) (h02 : ∀ i, P ≤ i → S0 i = false) (hc : am_Cl q a b S0)
    (hw : (w = 1 ∧ x4 = 1 ∧ fh = 7 ∧ fn = 8 ∧ ft = 5 ∧ a = fs ∧ b = sn) ∨ (w = 2 ∧ x4 = 0 ∧ fh = 9 ∧ fn = 10 ∧ ft = 4 ∧ a = sn ∧ b = fs)) :
    am_C false ya_0_settle (d + 1) [.ref (am_oid 5), .ref (am_oid o), .int w] σ (fun r τ => r = none ∧ ∃ (g : Nat → Bool) (qf : Nat → Int32), am_Ls q a b (fun i => S0 i || S i) g ∧ (∀ i, P ≤ i → g i = false) ∧ τ = sp_St σ o w g qf) := by
  have hS' := hS
  obtain ⟨ho, hP, hq, s4, s5, s6, s7, s8, -, -⟩ := hS'
  have hE : am_Ed σ o fh fn ft P q a b := by
    rcases hw with ⟨-, -, rfl, rfl, rfl, rfl, rfl⟩ | ⟨-, -, rfl, rfl, rfl, rfl, rfl⟩
    · exact s7
    · exact s8
  have hw2 : w = 1 ∨ w = 2 := hw.elim (fun z => Or.inl z.1) (fun z => Or.inr z.1)
  have hx4 : (w = 1 ∧ x4 = 1 ∧ fh = 7 ∧ fn = 8 ∧ ft = 5) ∨ (w = 2 ∧ x4 = 0 ∧ fh = 9 ∧ fn = 10 ∧ ft = 4) := hw.elim (fun z => Or.inl ⟨z.1, z.2.1, z.2.2.1, z.2.2.2.1, z.2.2.2.2.1⟩) (fun z => Or.inr ⟨z.1, z.2.1, z.2.2.1, z.2.2.2.1, z.2.2.2.2.1⟩)
  have ho5 : o ≠ 5 := fun e => by rw [e] at ho; exact absurd ho (by decide)
  obtain ⟨n1, n2, -, -, n5, -, n7, -⟩ := hN
  have huv := n7.1
  generalize hQ : (fun (r : Option Value) (τ : am_St) => r = none ∧ ∃ (g : Nat → Bool) (qf : Nat → Int32), am_Ls q a b (fun i => S0 i || S i) g ∧ (∀ i, P ≤ i → g i = false) ∧ τ = sp_St σ o w g qf) = Q
  obtain ⟨ix, hix⟩ : ∃ ix : Nat → Nat, ix = fun j => (am_A σ 5 3 j).toNatClampNeg := ⟨_, rfl⟩
  have hat : ∀ j, u ≤ j → j < v → am_A σ 5 3 j = nI (ix j) ∧ ix j < P := fun j c1 c2 => by
    obtain ⟨i, e1, e2, -⟩ := n7.2.1 j c1 c2
    rw [hix]
    simp only [e2, nI_clamp (show i < 2 ^ 31 by omega)]
    exact ⟨trivial, e1⟩
  have hall : am_rg ix u (v - u) = S := by
    funext i
    have r := am_rg_iff ix u (v - u) i
    cases hs : S i
    · cases hr : am_rg ix u (v - u) i
      · rfl
      · obtain ⟨j, c1, c2, c3⟩ := r.mp hr
        obtain ⟨i', e1, e2, e3⟩ := n7.2.1 j c1 (by omega)
        have : i' = i := by
          rw [← c3, hix]
          simp only [e2, nI_clamp (show i' < 2 ^ 31 by omega)]
        rw [this, hs] at e3; cases e3
    · refine r.mpr ?_
      obtain ⟨e1, j, e2, e3, e4⟩ := n7.2.2.1 i hs
      refine ⟨j, e2, by omega, ?_⟩
      rw [hix]
      simp only [e4, nI_clamp (show i < 2 ^ 31 by omega)]
  have same : ∀ (g : Nat → Bool) (qf : Nat → Int32), am_Ed (sp_St σ o w g qf) o fh fn ft P q a b := fun g qf => by
    have := hx4
    exact hE.same (sp_St_A _ _ _ _ _ _ _ (by omega) (by omega)) (sp_St_A _ _ _ _ _ _ _ (by omega) (by omega)) (sp_St_A _ _ _ _ _ _ _ (by omega) (by omega))
  have loop : ∀ (j i : Nat), i + j = v - u → ∀ (g : Nat → Bool) (qf : Nat → Int32), am_Ls q a b (fun z => S0 z || am_rg ix u i z) g → (∀ z, P ≤ z → g z = false) → am_T false ya_0_settle (d + 1) Q 5 [some (.ref (am_oid 5)), some (.ref (am_oid o)), some (.int w), some (.int (nI (u + i)))] [] (sp_St σ o w g qf) := by
    intro j
    induction j with
    | zero =>
      intro i hi g qf hg hz
      have : i = v - u := by omega
      subst this
      rw [hall] at hg
      refine kb_0_settle_5 (kt := fun _ => kb_0_settle_34 ?_) (kf := fun c => absurd ?_ c)
      · rw [← hQ]; exact ⟨rfl, g, qf, hg, hz, rfl⟩
      · rw [sp_St_I, n2]; exact nI_le (by omega) (by omega)
    | succ j ih =>
      intro i hi g qf hg hz
      obtain ⟨e1, e2⟩ := hat (u + i) (by omega) (by omega)
      have c0 : am_A (sp_St σ o w g qf) 5 3 (nI (u + i)).toNatClampNeg = nI (ix (u + i)) := by rw [sp_St_A _ _ _ _ _ _ _ (by omega) (by omega), nI_clamp (by omega)]; exact e1
      have hg0 : ∀ z, S0 z = true → g z = true := fun z hz => hg.1 z (by simp [hz])
      have hgL : ∀ z, z < P → am_bt w (am_A (sp_St σ o w g qf) 5 1 z) = g z := fun z hz => by
        rw [sp_St_L]; exact am_bt_or hw2 (hL z hz) (fun h => hg0 z (by rw [h0 z hz]; exact h))
      refine kb_0_settle_5 (kt := fun c => absurd c ?_) (kf := fun _ => ?_)
      · rw [sp_St_I, n2]; exact nI_ge (by omega) (by omega)
      · refine kb_0_settle_13 (hi0 := vp_in_nI (by omega) (by omega)) (hC := ?_) (k := fun r τ hr => ?_) (Q' := fun r τ => r = none ∧ ∃ (g' : Nat → Bool) (qf' : Nat → Int32), am_Ls q a b (fun z => g z || z == ix (u + i)) g' ∧ (∀ z, P ≤ z → g' z = false) ∧ τ = sp_St (sp_St σ o w g qf) o w g' qf')
        · rw [c0]
          refine sp_spread (x4 := x4) ho hw2 hP hq (sp_St σ o w g qf) s4 s5 (fun z hz => ?_) (hx4.elim (fun z => Or.inr z.2.2.2.2) (fun z => Or.inl z.2.2.2.2)) (hx4.elim (fun z => Or.inl z.2.2.2.1) (fun z => Or.inr z.2.2.2.1)) (hx4.elim (fun z => Or.inl z.2.2.1) (fun z => Or.inr z.2.2.1)) (same g qf) g (fun z hz => (hgL z hz).symm) hz hg.2.1 (ix (u + i)) e2 hx4
          rw [sp_St_L]
          unfold am_or
          split
          · exact (am_set_bt hw2 (hL z hz)).2.2
          · exact hL z hz
        · obtain ⟨rfl, g', qf', hg', hz', rfl⟩ := hr
          rw [sp_St_St (fun z hz => hg'.1 z (by simp [hz]))]
          refine kb_0_settle_28 (k := ?_)
          rw [nI_1]
          refine ih (i + 1) (by omega) g' qf' ?_ hz'
          have st := am_Ls_step hg hg'
          have e : (fun z => (S0 z || am_rg ix u i z) || z == ix (u + i)) = fun z => S0 z || am_rg ix u (i + 1) z := by
            funext z; rw [am_rg, Bool.or_assoc]
          rw [e] at st
          exact st
  refine am_enter rfl (by simp [Value.category]) (Nat.le_of_ble_eq_true rfl) (kb_0_settle_0 (k := ?_))
  rw [n1]
  have e0 : sp_St σ o w S0 (am_A σ o 11) = σ := by
    unfold sp_St
    have hSL : ∀ i, S0 i = true → am_A σ 5 1 i ||| w = am_A σ 5 1 i := fun i hi => by
      rcases Nat.lt_or_ge i P with c | c
      · exact (am_set_bt hw2 (hL i c)).2.1 (by rw [← h0 i c]; exact hi)
      · rw [h02 i c] at hi; cases hi
    rw [am_or_self hSL, am_sA_id, am_sA_id]
  have := loop (v - u) 0 (by omega) S0 (am_A σ o 11) ⟨fun i hi => by simpa [am_rg] using hi, hc, fun h h1 _ i hi => h1 i (by simp [hi])⟩ h02
  rw [e0] at this
  exact this
