/-! what a state's samples are; Samples.labelAll -/
def am_Sm (σ : am_St) (o P q : Nat) (st td fs sn : Nat → Nat) : Prop :=
  am_k false o = 5 ∧ P ≤ 200 ∧ q ≤ 300 ∧ am_I σ o 0 = nI P ∧ am_I σ o 1 = nI q ∧ (∀ i, i < P → am_A σ o 2 i = nI (st i) ∧ st i < 600 ∧ am_A σ o 3 i = nI (td i) ∧ td i < 4) ∧ am_Ed σ o 7 8 5 P q fs sn ∧ am_Ed σ o 9 10 4 P q sn fs ∧
  (∀ i, i < P → am_A σ o 6 (st i) = nI i) ∧ ∀ s, s < 600 → (∀ i, i < P → st i ≠ s) → am_A σ o 6 s = -2
theorem am_Ed.same {σ τ : am_St} {o fh fn ft P q : Nat} {a b : Nat → Nat} (h : am_Ed σ o fh fn ft P q a b) (h1 : am_A τ o fh = am_A σ o fh) (h2 : am_A τ o fn = am_A σ o fn) (h3 : am_A τ o ft = am_A σ o ft) : am_Ed τ o fh fn ft P q a b := by
  obtain ⟨e1, e2, e3, e4⟩ := h
  exact ⟨fun p hp => by rw [h1]; exact e1 p hp, fun k hk => by rw [h2]; exact e2 k hk, fun k hk => by rw [h3]; exact e3 k hk, e4⟩
/-- the samples are the same where the object's own fields and arrays but the queue and the distances are -/
theorem am_Sm.same {σ τ : am_St} {o P q : Nat} {st td fs sn : Nat → Nat} (h : am_Sm σ o P q st td fs sn) (hI : ∀ k, k < 2 → am_I τ o k = am_I σ o k) (hA : ∀ k, k < 11 → am_A τ o k = am_A σ o k) : am_Sm τ o P q st td fs sn := by
  obtain ⟨h1, h2, h3, h4, h5, h6, h7, h8, h9, h10⟩ := h
  refine ⟨h1, h2, h3, by rw [hI 0 (by decide)]; exact h4, by rw [hI 1 (by decide)]; exact h5, fun i hi => ?_, h7.same (hA 7 (by decide)) (hA 8 (by decide)) (hA 5 (by decide)), h8.same (hA 9 (by decide)) (hA 10 (by decide)) (hA 4 (by decide)), fun i hi => ?_, fun s hs hn => ?_⟩
  · rw [hA 2 (by decide), hA 3 (by decide)]; exact h6 i hi
  · rw [hA 6 (by decide)]; exact h9 i hi
  · rw [hA 6 (by decide)]; exact h10 s hs hn
def am_tg (td : Nat → Nat) (w : Int32) (n : Nat) : Nat → Bool := fun i => decide (i < n) && am_bt w (nI (td i))
theorem am_Ls_step {q : Nat} {a b : Nat → Nat} {g0 g g' : Nat → Bool} {p : Nat} (h : am_Ls q a b g0 g) (h' : am_Ls q a b (fun i => g i || i == p) g') : am_Ls q a b (fun i => g0 i || i == p) g' := by
  refine ⟨fun i hi => h'.1 i ?_, h'.2.1, fun hh h1 h2 i hi => h'.2.2 hh (fun j hj => ?_) h2 i hi⟩
  · rcases Bool.or_eq_true_iff.mp hi with c | c
    · simp [h.1 i c]
    · show (g i || i == p) = true
      rw [c]; simp
  · rcases Bool.or_eq_true_iff.mp hj with c | c
    · exact h.2.2 hh (fun z hz => h1 z (by simp [hz])) h2 j c
    · exact h1 j (by show (g0 j || j == p) = true; rw [c]; simp)
theorem am_tg_succ {td : Nat → Nat} {w : Int32} {n : Nat} (h : am_bt w (nI (td n)) = true) : am_tg td w (n + 1) = fun i => am_tg td w n i || i == n := by
  funext i
  unfold am_tg
  by_cases e : i = n
  · subst e; simp [h]
  · have : (i < n + 1) = (i < n) := propext ⟨fun h => by omega, fun h => by omega⟩
    simp [this, e]
theorem am_tg_succ0 {td : Nat → Nat} {w : Int32} {n : Nat} (h : am_bt w (nI (td n)) = false) : am_tg td w (n + 1) = am_tg td w n := by
  funext i
  unfold am_tg
  by_cases e : i = n
  · subst e; simp [h]
  · have : (i < n + 1) = (i < n) := propext ⟨fun h => by omega, fun h => by omega⟩
    simp [this]
theorem am_Ls_none {q : Nat} {a b : Nat → Nat} {g0 : Nat → Bool} (h : ∀ i, g0 i = false) : am_Ls q a b g0 (fun _ => false) :=
  ⟨fun i hi => by rw [h i] at hi; exact hi, fun _ _ h => h, fun _ _ _ _ hi => by cases hi⟩
/-- the labels array, out of two sets -/
def am_lbs (g bd : Nat → Bool) (L : Nat → Int32) : Nat → Int32 := am_or 2 bd (am_or 1 g (am_fill 200 0 L))
theorem am_lbs_at {g bd : Nat → Bool} {L : Nat → Int32} {i : Nat} (hi : i < 200) : am_lbs g bd L i = am_lb (g i) (bd i) := by
  unfold am_lbs am_or am_fill am_lb
  rw [if_pos hi]
  cases g i <;> cases bd i <;> decide
theorem am_lb_bt (g b : Bool) : am_bt 1 (am_lb g b) = g ∧ am_bt 2 (am_lb g b) = b ∧ (am_lb g b = 0 ∨ am_lb g b = 1 ∨ am_lb g b = 2 ∨ am_lb g b = 3) := by
  cases g <;> cases b <;> decide
theorem am_lb_or1 (g g' b : Bool) (h : g = true → g' = true) : (if g' = true then am_lb g b ||| 1 else am_lb g b) = am_lb g' b := by
  cases g <;> cases g' <;> cases b <;> first | decide | exact absurd (h rfl) (by decide)
theorem am_lb_or2 (g b b' : Bool) (h : b = true → b' = true) : (if b' = true then am_lb g b ||| 2 else am_lb g b) = am_lb g b' := by
  cases g <;> cases b <;> cases b' <;> first | decide | exact absurd (h rfl) (by decide)
theorem am_lbs_1 {g g' bd : Nat → Bool} {L : Nat → Int32} (hg : ∀ i, g i = true → g' i = true) (h2 : ∀ i, 200 ≤ i → g' i = false ∧ bd i = false) : am_or 1 g' (am_lbs g bd L) = am_lbs g' bd L := by
  funext i
  rcases Nat.lt_or_ge i 200 with c | c
  · rw [am_lbs_at c]
    unfold am_or
    rw [am_lbs_at c]
    exact am_lb_or1 _ _ _ (hg i)
  · unfold am_lbs am_or
    have h3 : g i = false := by
      cases e : g i
      · rfl
      · have := hg i e; rw [(h2 i c).1] at this; cases this
    simp [(h2 i c).1, (h2 i c).2, h3]
theorem am_lbs_2 {g bd bd' : Nat → Bool} {L : Nat → Int32} (hg : ∀ i, bd i = true → bd' i = true) (h2 : ∀ i, 200 ≤ i → bd' i = false) : am_or 2 bd' (am_lbs g bd L) = am_lbs g bd' L := by
  funext i
  rcases Nat.lt_or_ge i 200 with c | c
  · rw [am_lbs_at c]
    unfold am_or
    rw [am_lbs_at c]
    exact am_lb_or2 _ _ _ (hg i)
  · unfold am_lbs am_or
    have h3 : bd i = false := by
      cases e : bd i
      · rfl
      · have := hg i e; rw [h2 i c] at this; cases this
    simp [h2 i c, h3]
/-- the state with labels and a queue -/
abbrev lb_St (σ : am_St) (o : Nat) (g bd : Nat → Bool) (qf : Nat → Int32) : am_St := am_sA (am_sA σ 5 1 (am_lbs g bd (am_A σ 5 1))) o 11 qf
theorem lb_St_L (σ : am_St) (o : Nat) (g bd : Nat → Bool) (qf : Nat → Int32) : am_A (lb_St σ o g bd qf) 5 1 = am_lbs g bd (am_A σ 5 1) := by
  unfold lb_St; rw [am_A_sA, if_neg (by simp), am_A_sA, if_pos ⟨rfl, rfl⟩]
theorem lb_St_A (σ : am_St) (o : Nat) (g bd : Nat → Bool) (qf : Nat → Int32) (k' : Nat) (h1 : k' ≠ 11) (h2 : ¬ (k' = 1 ∧ o = 5)) : am_A (lb_St σ o g bd qf) o k' = am_A σ o k' := by
  unfold lb_St; rw [am_A_sA, if_neg (fun h => h1 h.1), am_A_sA, if_neg h2]
theorem lb_St_sp {σ : am_St} {o : Nat} {g bd : Nat → Bool} {qf qf' L' : Nat → Int32} : am_sA (am_sA (lb_St σ o g bd qf) 5 1 L') o 11 qf' = am_sA (am_sA σ 5 1 L') o 11 qf' := by
  unfold lb_St
  rw [am_sA_comm _ o 11 5 1 _ _ (by simp), am_sA_sA, am_sA_sA]
theorem sp_5_labelAll (d o P q : Nat) (st td fs sn : Nat → Nat) (σ : am_St) (hS : am_Sm σ o P q st td fs sn) : am_C false ya_5_labelAll (d + 1) [.ref (am_oid o), .ref (am_aid 5 1)] σ (fun r τ => r = none ∧ ∃ (g bd : Nat → Bool) (qf : Nat → Int32), am_Ls q fs sn (am_tg td 1 P) g ∧ am_Ls q sn fs (am_tg td 2 P) bd ∧ (∀ i, P ≤ i → g i = false ∧ bd i = false) ∧ τ = lb_St σ o g bd qf) := by
  have hS' := hS
  obtain ⟨h1, h2, h3, h4, h5, h6, h7, h8, h9, h10⟩ := hS'
  have ho5 : o ≠ 5 := fun e => by rw [e] at h1; exact absurd h1 (by decide)
  generalize hQ : (fun (r : Option Value) (τ : am_St) => r = none ∧ ∃ (g bd : Nat → Bool) (qf : Nat → Int32), am_Ls q fs sn (am_tg td 1 P) g ∧ am_Ls q sn fs (am_tg td 2 P) bd ∧ (∀ i, P ≤ i → g i = false ∧ bd i = false) ∧ τ = lb_St σ o g bd qf) = Q
  have same : ∀ (g bd : Nat → Bool) (qf : Nat → Int32), am_Sm (lb_St σ o g bd qf) o P q st td fs sn := fun g bd qf => hS.same (fun _ _ => rfl) (fun k hk => lb_St_A _ _ _ _ _ _ (by omega) (fun h => ho5 h.2))
  have hlab : ∀ (g bd : Nat → Bool) (qf : Nat → Int32) (i : Nat), i < P → am_A (lb_St σ o g bd qf) 5 1 i = am_lb (g i) (bd i) := fun g bd qf i hi => by rw [lb_St_L]; exact am_lbs_at (by omega)
  have loop : ∀ (j p : Nat), p + j = P → ∀ (g bd : Nat → Bool) (qf : Nat → Int32), am_Ls q fs sn (am_tg td 1 p) g → am_Ls q sn fs (am_tg td 2 p) bd → (∀ i, P ≤ i → g i = false ∧ bd i = false) → am_T false ya_5_labelAll (d + 1) Q 7 [some (.ref (am_oid o)), some (.ref (am_aid 5 1)), some (.int (nI p))] [] (lb_St σ o g bd qf) := by
    intro j
    induction j with
    | zero =>
      intro p hp g bd qf hg hb hz
      refine kb_5_labelAll_7 (kt := fun _ => kb_5_labelAll_57 ?_) (kf := fun h => absurd ?_ h)
      · rw [← hQ]
        have : p = P := by omega
        subst this
        exact ⟨rfl, g, bd, qf, hg, hb, hz, rfl⟩
      · show am_I σ o 0 ≤ nI p
        rw [h4]; exact nI_le (by omega) (by omega)
    | succ j ih =>
      intro p hp g bd qf hg hb hz
      have hpP : p < P := by omega
      have vp : vp_in (nI p) 200 := vp_in_nI (by omega) (by omega)
      have htold : ∀ (g bd : Nat → Bool) (qf : Nat → Int32), am_A (lb_St σ o g bd qf) o 3 p = nI (td p) := fun g bd qf => by rw [lb_St_A _ _ _ _ _ _ (by decide) (fun h => ho5 h.2)]; exact (h6 p hpP).2.2.1
      -- the second half
      have half : ∀ (g : Nat → Bool) (qf : Nat → Int32), am_Ls q fs sn (am_tg td 1 (p + 1)) g → (∀ i, P ≤ i → g i = false) → am_T false ya_5_labelAll (d + 1) Q 33 [some (.ref (am_oid o)), some (.ref (am_aid 5 1)), some (.int (nI p))] [] (lb_St σ o g bd qf) := by
        intro g qf hg hzg
        refine kb_5_labelAll_33 (hi0 := vp) (kt := fun h => ?_) (kf := fun h => ?_)
        · rw [nI_clamp (by omega), htold, am_bt_0] at h
          refine kb_5_labelAll_51 (k := ?_)
          rw [nI_1]
          exact ih (p + 1) (by omega) g bd qf hg (by rw [am_tg_succ0 h]; exact hb) (fun i hi => ⟨hzg i hi, (hz i hi).2⟩)
        · rw [nI_clamp (by omega), htold, am_bt_0] at h
          have ht : am_bt 2 (nI (td p)) = true := by simpa using h
          refine kb_5_labelAll_44 (hC := sp_spread (x4 := 0) (fh := 9) (fn := 10) (ft := 4) (a := sn) (b := fs) (S := bd) h1 (Or.inr rfl) h2 h3 (lb_St σ o g bd qf) h4 h5 (fun i hi => by rw [hlab _ _ _ i hi]; exact (am_lb_bt _ _).2.2) (Or.inl rfl) (Or.inr rfl) (Or.inr rfl) (same g bd qf).2.2.2.2.2.2.2.1 (fun i hi => by rw [hlab _ _ _ i hi]; exact (am_lb_bt _ _).2.1.symm) (fun i hi => (hz i hi).2) hb.2.1 p hpP (Or.inr ⟨rfl, rfl, rfl, rfl, rfl⟩)) (k := fun r τ hr => ?_)
          obtain ⟨rfl, b', qf', hb', hzb, rfl⟩ := hr
          have hmono : ∀ i, bd i = true → b' i = true := fun i hi => hb'.1 i (by simp [hi])
          have eS : sp_St (lb_St σ o g bd qf) o 2 b' qf' = lb_St σ o g b' qf' := by
            show am_sA (am_sA (lb_St σ o g bd qf) 5 1 (am_or 2 b' (am_A (lb_St σ o g bd qf) 5 1))) o 11 qf' = _
            rw [lb_St_L, am_lbs_2 hmono (fun i hi => hzb i (by omega))]
            exact lb_St_sp
          rw [eS]
          refine kb_5_labelAll_51 (k := ?_)
          rw [nI_1]
          exact ih (p + 1) (by omega) g b' qf' hg (by rw [am_tg_succ ht]; exact am_Ls_step hb hb') (fun i hi => ⟨hzg i hi, hzb i hi⟩)
      refine kb_5_labelAll_7 (kt := fun h => absurd h ?_) (kf := fun _ => ?_)
      · show ¬ am_I σ o 0 ≤ nI p
        rw [h4]; exact nI_ge (by omega) (by omega)
      · refine kb_5_labelAll_15 (hi0 := vp) (kt := fun h => ?_) (kf := fun h => ?_)
        · rw [nI_clamp (by omega), htold, am_bt_0] at h
          exact half g qf (by rw [am_tg_succ0 h]; exact hg) (fun i hi => (hz i hi).1)
        · rw [nI_clamp (by omega), htold, am_bt_0] at h
          have ht : am_bt 1 (nI (td p)) = true := by simpa using h
          refine kb_5_labelAll_26 (hC := sp_spread (x4 := 1) (fh := 7) (fn := 8) (ft := 5) (a := fs) (b := sn) (S := g) h1 (Or.inl rfl) h2 h3 (lb_St σ o g bd qf) h4 h5 (fun i hi => by rw [hlab _ _ _ i hi]; exact (am_lb_bt _ _).2.2) (Or.inr rfl) (Or.inl rfl) (Or.inl rfl) (same g bd qf).2.2.2.2.2.2.1 (fun i hi => by rw [hlab _ _ _ i hi]; exact (am_lb_bt _ _).1.symm) (fun i hi => (hz i hi).1) hg.2.1 p hpP (Or.inl ⟨rfl, rfl, rfl, rfl, rfl⟩)) (k := fun r τ hr => ?_)
          obtain ⟨rfl, g', qf', hg', hzg, rfl⟩ := hr
          have hmono : ∀ i, g i = true → g' i = true := fun i hi => hg'.1 i (by simp [hi])
          have eS : sp_St (lb_St σ o g bd qf) o 1 g' qf' = lb_St σ o g' bd qf' := by
            show am_sA (am_sA (lb_St σ o g bd qf) 5 1 (am_or 1 g' (am_A (lb_St σ o g bd qf) 5 1))) o 11 qf' = _
            rw [lb_St_L, am_lbs_1 hmono (fun i hi => ⟨hzg i (by omega), (hz i (by omega)).2⟩)]
            exact lb_St_sp
          rw [eS]
          exact half g' qf' (by rw [am_tg_succ ht]; exact am_Ls_step hg hg') hzg
  refine am_enter rfl (by simp [Value.category]) (Nat.le_of_ble_eq_true rfl) ?_
  refine kb_5_labelAll_0 (hC := sp_fill false d 5 1 0 200 0 σ rfl (by decide) rfl (by decide)) (k := fun r τ hr => ?_)
  obtain ⟨rfl, rfl⟩ := hr
  refine kb_5_labelAll_5 (k := ?_)
  have e0 : am_sA σ 5 1 (am_fill 200 0 (am_A σ 5 1)) = lb_St σ o (fun _ => false) (fun _ => false) (am_A σ o 11) := by
    have e1 : am_lbs (fun _ => false) (fun _ => false) (am_A σ 5 1) = am_fill 200 0 (am_A σ 5 1) := by
      funext i; unfold am_lbs am_or; simp
    show _ = am_sA (am_sA σ 5 1 (am_lbs (fun _ => false) (fun _ => false) (am_A σ 5 1))) o 11 (am_A σ o 11)
    rw [e1]
    have e2 : am_A σ o 11 = am_A (am_sA σ 5 1 (am_fill 200 0 (am_A σ 5 1))) o 11 := by rw [am_A_sA, if_neg (by simp)]
    rw [e2, am_sA_id]
  rw [e0]
  have hn : ∀ (w : Int32) (i : Nat), am_tg td w 0 i = false := fun w i => by unfold am_tg; simp
  exact loop P 0 (by omega) _ _ _ (am_Ls_none (hn 1)) (am_Ls_none (hn 2)) (fun _ _ => ⟨rfl, rfl⟩)
