/-! Samples.spread, whole -/
theorem am_cn_false {f : Nat → Bool} (h : ∀ i, f i = false) (n : Nat) : am_cn f n = 0 := by
  induction n with
  | zero => rfl
  | succ n ih => unfold am_cn; rw [ih, h n]; rfl
theorem am_or_self {w : Int32} {g : Nat → Bool} {L : Nat → Int32} (h : ∀ i, g i = true → L i ||| w = L i) : am_or w g L = L := by
  funext i
  unfold am_or
  by_cases e : g i = true
  · rw [if_pos e]; exact h i e
  · rw [if_neg e]
section SPREAD2
variable {d o P q : Nat} {w x4 : Int32} {fh fn ft : Nat} {a b : Nat → Nat}
theorem sp_spread (ho : am_k false o = 5) (hw : w = 1 ∨ w = 2) (hP : P ≤ 200) (hq : q ≤ 300) (σ : am_St) (hIP : am_I σ o 0 = nI P) (hIq : am_I σ o 1 = nI q) (hL : ∀ i, i < P → am_A σ 5 1 i = 0 ∨ am_A σ 5 1 i = 1 ∨ am_A σ 5 1 i = 2 ∨ am_A σ 5 1 i = 3)
    (hft : ft = 4 ∨ ft = 5) (hfn : fn = 8 ∨ fn = 10) (hfh : fh = 7 ∨ fh = 9) (hE : am_Ed σ o fh fn ft P q a b)
    (S : Nat → Bool) (hS : ∀ i, i < P → S i = am_bt w (am_A σ 5 1 i)) (hS2 : ∀ i, P ≤ i → S i = false) (hSc : am_Cl q a b S) (pt : Nat) (hpt : pt < P)
    (hx4 : (w = 1 ∧ x4 = 1 ∧ fh = 7 ∧ fn = 8 ∧ ft = 5) ∨ (w = 2 ∧ x4 = 0 ∧ fh = 9 ∧ fn = 10 ∧ ft = 4)) :
    am_C false ya_5_spread d [.ref (am_oid o), .ref (am_aid 5 1), .int (nI pt), .int w] σ (fun r τ => r = none ∧ ∃ (g : Nat → Bool) (qf : Nat → Int32), am_Ls q a b (fun i => S i || i == pt) g ∧ (∀ i, P ≤ i → g i = false) ∧ τ = sp_St σ o w g qf) := by
  obtain ⟨hE1, hE2, hE3, hE4⟩ := hE
  generalize hQ : (fun (r : Option Value) (τ : am_St) => r = none ∧ ∃ (g : Nat → Bool) (qf : Nat → Int32), am_Ls q a b (fun i => S i || i == pt) g ∧ (∀ i, P ≤ i → g i = false) ∧ τ = sp_St σ o w g qf) = Q
  have hSL : ∀ i, S i = true → am_A σ 5 1 i ||| w = am_A σ 5 1 i := fun i hi => by
    rcases Nat.lt_or_ge i P with c | c
    · exact (am_set_bt hw (hL i c)).2.1 (by rw [← hS i c]; exact hi)
    · rw [hS2 i c] at hi; cases hi
  have b57 : ∀ (τ : am_St) (x2 x5 x6 : Int32) (a7 a8 a9 : Option Value), vp_in x6 200 → vp_in (am_A τ o 11 x6.toNatClampNeg) 200 → am_T false ya_5_spread d Q 89 [some (.ref (am_oid o)), some (.ref (am_aid 5 1)), some (.int x2), some (.int w), some (.int x4), some (.int x5), some (.int x6), a7, a8, a9] [.int (am_A τ o fh (am_A τ o 11 x6.toNatClampNeg).toNatClampNeg)] τ → am_T false ya_5_spread d Q 57 [some (.ref (am_oid o)), some (.ref (am_aid 5 1)), some (.int x2), some (.int w), some (.int x4), some (.int x5), some (.int x6), a7, a8, a9] [] τ := by
    intro τ x2 x5 x6 a7 a8 a9 v1 v2 k
    rcases hx4 with ⟨-, h4, h7, -, -⟩ | ⟨-, h4, h7, -, -⟩
    · subst h4; subst h7
      exact kb_5_spread_57 (kt := fun h => absurd h (by decide)) (kf := fun _ => kb_5_spread_62 (hi0 := v1) (hi1 := v2) (k := k))
    · subst h4; subst h7
      exact kb_5_spread_57 (kt := fun _ => kb_5_spread_77 (hi0 := v1) (hi1 := v2) (k := k)) (kf := fun h => absurd rfl h)
  have b107 : ∀ (τ : am_St) (x2 : Int32) (x5 x6 x7 x8 : Int32) (a9 : Option Value), vp_in x7 300 → am_T false ya_5_spread d Q 129 [some (.ref (am_oid o)), some (.ref (am_aid 5 1)), some (.int x2), some (.int w), some (.int x4), some (.int x5), some (.int x6), some (.int x7), some (.int x8), a9] [.int (am_A τ o ft x7.toNatClampNeg)] τ → am_T false ya_5_spread d Q 107 [some (.ref (am_oid o)), some (.ref (am_aid 5 1)), some (.int x2), some (.int w), some (.int x4), some (.int x5), some (.int x6), some (.int x7), some (.int x8), a9] [] τ := by
    intro τ x2 x5 x6 x7 x8 a9 v k
    rcases hx4 with ⟨-, h4, -, -, h7⟩ | ⟨-, h4, -, -, h7⟩
    · subst h4; subst h7
      exact kb_5_spread_107 (kt := fun h => absurd h (by decide)) (kf := fun _ => kb_5_spread_112 (hi0 := v) (k := k))
    · subst h4; subst h7
      exact kb_5_spread_107 (kt := fun _ => kb_5_spread_122 (hi0 := v) (k := k)) (kf := fun h => absurd rfl h)
  have b160 : ∀ (τ : am_St) (x2 : Int32) (x5 x6 x7 x8 x9 : Int32), vp_in x7 300 → am_T false ya_5_spread d Q 182 [some (.ref (am_oid o)), some (.ref (am_aid 5 1)), some (.int x2), some (.int w), some (.int x4), some (.int x5), some (.int x6), some (.int x7), some (.int x8), some (.int x9)] [.int (am_A τ o fn x7.toNatClampNeg)] τ → am_T false ya_5_spread d Q 160 [some (.ref (am_oid o)), some (.ref (am_aid 5 1)), some (.int x2), some (.int w), some (.int x4), some (.int x5), some (.int x6), some (.int x7), some (.int x8), some (.int x9)] [] τ := by
    intro τ x2 x5 x6 x7 x8 x9 v k
    rcases hx4 with ⟨-, h4, -, h7, -⟩ | ⟨-, h4, -, h7, -⟩
    · subst h4; subst h7
      exact kb_5_spread_160 (kt := fun h => absurd h (by decide)) (kf := fun _ => kb_5_spread_165 (hi0 := v) (k := k))
    · subst h4; subst h7
      exact kb_5_spread_160 (kt := fun _ => kb_5_spread_175 (hi0 := v) (k := k)) (kf := fun h => absurd rfl h)
  have outer : ∀ (j hd : Nat), hd + j = P → ∀ (g : Nat → Bool) (qf : Nat → Int32) (tl : Nat) (a7 a8 a9 : Option Value), sp_Inv P q a b S pt g qf hd tl → am_T false ya_5_spread d Q 41 [some (.ref (am_oid o)), some (.ref (am_aid 5 1)), some (.int (nI pt)), some (.int w), some (.int x4), some (.int (nI tl)), some (.int (nI hd)), a7, a8, a9] [] (sp_St σ o w g qf) := by
    have fin : ∀ (hd : Nat) (g : Nat → Bool) (qf : Nat → Int32) (a0 a1 a2 a3 a4 a5 a6 a7 a8 a9 : Option Value), sp_Inv P q a b S pt g qf hd hd → am_T false ya_5_spread d Q 196 [a0, a1, a2, a3, a4, a5, a6, a7, a8, a9] [] (sp_St σ o w g qf) := by
      intro hd g qf a0 a1 a2 a3 a4 a5 a6 a7 a8 a9 hI
      refine kb_5_spread_196 (hq := ?_)
      rw [← hQ]
      obtain ⟨i1, i2, i3, i4, i5, i6, i7, i8, i9⟩ := hI
      refine ⟨rfl, g, qf, ⟨fun i hi => ?_, fun k hk hg => ?_, fun h hh hc i hi => ?_⟩, i3, rfl⟩
      · rcases Bool.or_eq_true_iff.mp hi with c | c
        · exact i1 i c
        · rw [beq_iff_eq.mp c]; exact i2
      · cases hs : S (a k)
        · obtain ⟨j, e1, e2⟩ := i7 _ hg hs
          exact i8 j (a k) e1 e2 (hE4 k hk).1 k hk rfl
        · exact i1 _ (hSc k hk hs)
      · exact i9 h (fun i hi => hh i (by simp [hi])) (hh pt (by simp)) hc i hi
    intro j
    induction j with
    | zero =>
      intro hd hj g qf tl a7 a8 a9 hI
      have htl : tl ≤ P := by rw [hI.2.2.2.2.1]; exact am_cn_le _ _
      have hdt := hI.2.2.2.1
      have e : tl = hd := by omega
      subst e
      exact kb_5_spread_41 (kt := fun _ => fin _ _ _ _ _ _ _ _ _ _ _ _ _ hI) (kf := fun h => absurd (nI_le (Nat.le_refl _) (by omega)) h)
    | succ j ih =>
      intro hd hj g qf tl a7 a8 a9 hI
      have htl : tl ≤ P := by rw [hI.2.2.2.2.1]; exact am_cn_le _ _
      have hdt := hI.2.2.2.1
      refine kb_5_spread_41 (kt := fun h => ?_) (kf := fun h => ?_)
      · have e : tl = hd := by
          have := (nI_leI (by omega) (by omega)).mp h
          omega
        subst e
        exact fin _ _ _ _ _ _ _ _ _ _ _ _ _ hI
      · have hlt : hd < tl := by
          rcases Nat.lt_or_ge hd tl with c | c
          · exact c
          · exact absurd (nI_le c (by omega)) h
        obtain ⟨p, hp, hqp, -⟩ := hI.2.2.2.2.2.1 hd hlt
        refine kb_5_spread_48 (kt := fun h => absurd h ?_) (kf := fun _ => ?_)
        · rw [sp_St_I, hIP]; exact nI_ge (by omega) (by omega)
        · refine b57 _ _ _ _ _ _ _ (vp_in_nI (by omega) (by omega)) ?_ ?_
          · rw [nI_clamp (by omega), sp_St_q, hqp]; exact vp_in_nI (by omega) (by omega)
          · rw [nI_clamp (show hd < 2 ^ 31 by omega), sp_St_q, hqp, nI_clamp (show p < 2 ^ 31 by omega), sp_St_A _ _ _ _ _ _ _ (by omega) (by omega), hE1 p hp]
            refine kb_5_spread_89 (k := ?_)
            rw [sp_St_I, hIq]
            refine sp_inner ho hw hP hq σ hL hft hfn hE2 hE3 hE4 S hS hS2 pt b107 b160 (nI pt) hd p hp qf hqp ?_ q q (Nat.le_refl _) (Nat.le_refl _) hq g qf tl _ hI hqp hlt (fun k h1 h2 => by omega)
            intro g' qf' tl' x7 x8 b9 hI' hq' hcl hdt'
            refine kb_5_spread_190 (k := ?_)
            rw [nI_1]
            obtain ⟨i1, i2, i3, i4, i5, i6, i7, i8, i9⟩ := hI'
            refine ih (hd + 1) (by omega) g' qf' tl' _ _ _ ⟨i1, i2, i3, by omega, i5, i6, i7, fun jj i h1 h2 h3 k hk hak => ?_, i9⟩
            rcases Nat.lt_or_ge jj hd with c | c
            · exact i8 jj i c h2 h3 k hk hak
            · have e : jj = hd := by omega
              rw [e, hq'] at h2
              have e2 : p = i := nI_inj (by omega) (by omega) h2
              exact hcl k hk (hak.trans e2.symm)
  refine am_enter rfl (by simp [Value.category]) (Nat.le_of_ble_eq_true rfl) ?_
  have hLpt : am_bt w (am_A σ 5 1 pt) = S pt := (hS pt hpt).symm
  have v0 : vp_in (nI pt) 200 := vp_in_nI (by omega) (by omega)
  refine kb_5_spread_0 (hi0 := v0) (kt := fun h => ?_) (kf := fun h => ?_)
  · rw [nI_clamp (by omega), am_bt_0, hLpt] at h
    have to19 : am_T false ya_5_spread d Q 19 (am_L0 [.ref (am_oid o), .ref (am_aid 5 1), .int (nI pt), .int w] 10) [.int x4] σ := by
      refine kb_5_spread_19 (hi1 := v0) (hi2 := v0) (k := ?_)
      rw [nI_clamp (by omega)]
      have eS : am_sA (am_sA σ 5 1 (upd (am_A σ 5 1) pt (am_A σ 5 1 pt ||| w))) o 11 (upd (am_A (am_sA σ 5 1 (upd (am_A σ 5 1) pt (am_A σ 5 1 pt ||| w))) o 11) 0 (nI pt)) = sp_St σ o w (fun j => j == pt || S j) (upd (am_A σ o 11) 0 (nI pt)) := by
        have e1 : upd (am_A σ 5 1) pt (am_A σ 5 1 pt ||| w) = am_or w (fun j => j == pt || S j) (am_A σ 5 1) := by
          have := am_or_add (w := w) (g := S) (L := am_A σ 5 1) pt h
          rw [am_or_self hSL] at this
          exact this
        have e2 : ∀ F : Nat → Int32, am_A (am_sA σ 5 1 F) o 11 = am_A σ o 11 := fun F => by rw [am_A_sA, if_neg (by simp)]
        rw [e2, e1]
      rw [eS]
      have hcn : am_cn (fun i => (i == pt || S i) && !S i) P = 1 := by
        rw [am_cn_or hpt h h, am_cn_false (fun i => by cases S i <;> rfl)]
      refine outer P 0 (by omega) _ _ 1 _ _ _ ⟨fun i hi => by simp [hi], by simp, fun i hi => ?_, by omega, hcn.symm, fun j hj => ⟨pt, hpt, ?_, by simp⟩, fun i hi hs => ⟨0, by omega, ?_⟩, fun j i hj => absurd hj (Nat.not_lt_zero j), fun hh h1 h2 h3 i hi => ?_⟩
      · have : i ≠ pt := by omega
        simp [this, hS2 i hi]
      · have : j = 0 := by omega
        simp [upd, this]
      · have : i = pt := by simpa [hs] using hi
        simp [upd, this]
      · rcases Bool.or_eq_true_iff.mp hi with c | c
        · rw [beq_iff_eq.mp c]; exact h2
        · exact h1 i c
    rcases hx4 with ⟨e1, e2, -⟩ | ⟨e1, e2, -⟩
    · subst e1; subst e2
      exact kb_5_spread_9 (kt := fun h => absurd rfl h) (kf := fun _ => kb_5_spread_14 (k := to19))
    · subst e1; subst e2
      exact kb_5_spread_9 (kt := fun _ => kb_5_spread_18 (k := to19)) (kf := fun h => absurd h (by decide))
  · rw [nI_clamp (by omega), am_bt_0, hLpt] at h
    have hSp : S pt = true := by simpa using h
    refine kb_5_spread_8 (hq := ?_)
    rw [← hQ]
    refine ⟨rfl, S, am_A σ o 11, ⟨fun i hi => ?_, hSc, fun hh h1 h2 i hi => h1 i (by simp [hi])⟩, hS2, ?_⟩
    · rcases Bool.or_eq_true_iff.mp hi with c | c
      · exact c
      · rw [beq_iff_eq.mp c]; exact hSp
    · unfold sp_St
      rw [am_or_self hSL, am_sA_id, am_sA_id]
end SPREAD2
