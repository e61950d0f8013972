/-! the way from a good point to a bad one: the class's onWay, the reference's trace -/
def tc_bg (good : Nat → Bool) (f : Nat → Option Nat) : Nat → Option Nat
  | 0 => none
  | n + 1 => match (if good n = true then f n else none) with
    | none => tc_bg good f n
    | some e => match tc_bg good f n with
      | none => some n
      | some b => if e < (f b).getD 0 then some n else some b
theorem tc_bg_some {good : Nat → Bool} {f : Nat → Option Nat} : ∀ (n : Nat) {b : Nat}, tc_bg good f n = some b → b < n ∧ good b = true ∧ ∃ e, f b = some e := by
  intro n
  induction n with
  | zero => intro b h; cases h
  | succ n ih =>
    intro b h
    unfold tc_bg at h
    cases h1 : (if good n = true then f n else none) with
    | none =>
      rw [h1] at h
      obtain ⟨a, c⟩ := ih h
      exact ⟨by omega, c⟩
    | some e =>
      rw [h1] at h
      have hg : good n = true ∧ f n = some e := by
        by_cases c : good n = true
        · rw [if_pos c] at h1; exact ⟨c, h1⟩
        · rw [if_neg c] at h1; cases h1
      cases h2 : tc_bg good f n with
      | none =>
        rw [h2] at h
        injection h with h
        rw [← h]; exact ⟨by omega, hg.1, e, hg.2⟩
      | some b' =>
        rw [h2] at h
        dsimp only at h
        split at h
        · injection h with h
          rw [← h]; exact ⟨by omega, hg.1, e, hg.2⟩
        · injection h with h
          rw [← h]
          obtain ⟨a, c⟩ := ih h2
          exact ⟨by omega, c⟩
theorem tc_bg_none {good : Nat → Bool} {f : Nat → Option Nat} : ∀ (n : Nat), tc_bg good f n = none → ∀ i, i < n → good i = true → f i = none := by
  intro n
  induction n with
  | zero => intro _ i hi; exact absurd hi (Nat.not_lt_zero i)
  | succ n ih =>
    intro h i hi hg
    unfold tc_bg at h
    cases h1 : (if good n = true then f n else none) with
    | none =>
      rw [h1] at h
      by_cases c : i = n
      · subst c; rw [if_pos hg] at h1; exact h1
      · exact ih h i (by omega) hg
    | some e =>
      rw [h1] at h
      cases h2 : tc_bg good f n with
      | none => rw [h2] at h; cases h
      | some b => rw [h2] at h; dsimp only at h; split at h <;> cases h
def tc_mn (S : Nat → Prop) (x : Option Nat) : Prop := (x = none → ∀ b, ¬ S b) ∧ ∀ m, x = some m → S m ∧ ∀ b, S b → m ≤ b
theorem tc_mn.uniq {S : Nat → Prop} {x y : Option Nat} (h : tc_mn S x) (h' : tc_mn S y) : x = y := by
  cases x with
  | none =>
    cases y with
    | none => rfl
    | some m => exact absurd (h'.2 m rfl).1 (h.1 rfl m)
  | some m =>
    cases y with
    | none => exact absurd (h.2 m rfl).1 (h'.1 rfl m)
    | some m' =>
      have a := (h.2 m rfl).2 m' (h'.2 m' rfl).1
      have b := (h'.2 m' rfl).2 m (h.2 m rfl).1
      congr 1; omega
theorem tc_mn.cg {S S' : Nat → Prop} {x : Option Nat} (h : tc_mn S x) (e : ∀ b, S' b ↔ S b) : tc_mn S' x := ⟨fun z b hb => h.1 z b ((e b).mp hb), fun m hm => ⟨(e m).mpr (h.2 m hm).1, fun b hb => (h.2 m hm).2 b ((e b).mp hb)⟩⟩
theorem tc_mn.add0 {S : Nat → Prop} (h : tc_mn S none) (c : Nat) : tc_mn (fun b => b = c ∨ S b) (some c) := ⟨fun z => (by cases z), fun m hm => by injection hm with hm; subst hm; exact ⟨Or.inl rfl, fun b hb => hb.elim (fun z => by omega) (fun z => absurd z (h.1 rfl b))⟩⟩
theorem tc_mn.add1 {S : Nat → Prop} {m : Nat} (h : tc_mn S (some m)) (c : Nat) (hc : m ≤ c) : tc_mn (fun b => b = c ∨ S b) (some m) := ⟨fun z => (by cases z), fun m' hm => by injection hm with hm; subst hm; exact ⟨Or.inr (h.2 m rfl).1, fun b hb => hb.elim (fun z => by omega) (fun z => (h.2 m rfl).2 b z)⟩⟩
theorem tc_mn.add2 {S : Nat → Prop} {m : Nat} (h : tc_mn S (some m)) (c : Nat) (hc : ¬ m ≤ c) : tc_mn (fun b => b = c ∨ S b) (some c) := ⟨fun z => (by cases z), fun m' hm => by injection hm with hm; subst hm; exact ⟨Or.inl rfl, fun b hb => hb.elim (fun z => by omega) (fun z => by have := (h.2 m rfl).2 b z; omega)⟩⟩
noncomputable def tc_nx (q : Nat) (fs sn : Nat → Nat) (f : Nat → Option Nat) (p e : Nat) : Option Nat := Classical.epsilon (tc_mn (fun b => ∃ k, k < q ∧ fs k = p ∧ sn k = b ∧ f b = some e))
theorem tc_nx_eq {q : Nat} {fs sn : Nat → Nat} {f : Nat → Option Nat} {p e : Nat} {x : Option Nat} (h : tc_mn (fun b => ∃ k, k < q ∧ fs k = p ∧ sn k = b ∧ f b = some e) x) : x = tc_nx q fs sn f p e := h.uniq (Classical.epsilon_spec (p := tc_mn (fun b => ∃ k, k < q ∧ fs k = p ∧ sn k = b ∧ f b = some e)) ⟨x, h⟩)
noncomputable def tc_wk (q : Nat) (fs sn : Nat → Nat) (f : Nat → Option Nat) : Nat → Nat → Nat
  | 0, p => p
  | n + 1, p => tc_wk q fs sn f n ((tc_nx q fs sn f p ((f p).getD 0 - 1)).getD 0)
theorem am_oI_eq {x : Option Nat} (h : ∀ t, x = some t → t < 200) {e : Nat} (he : e < 200) : (am_oI (-1) x = nI e) = (x = some e) := by
  cases x with
  | none => exact propext ⟨fun z => absurd z.symm (nI_neg1 e (by omega)), fun z => by cases z⟩
  | some t => exact propext ⟨fun z => by rw [nI_inj (by have := h t rfl; omega) (by omega) z], fun z => by injection z with z; rw [z]; rfl⟩
theorem am_oI_n {x : Option Nat} (h : ∀ t, x = some t → t < 200) : (am_oI (-1) x = -1) = (x = none) := by
  cases x with
  | none => simp [am_oI]
  | some t => exact propext ⟨fun z => absurd z (nI_neg1 t (by have := h t rfl; omega)), fun z => by cases z⟩
theorem am_oI_l {x : Option Nat} (h : ∀ t, x = some t → t < 200) : (am_oI (-1) x < 0) = (x = none) := by
  cases x with
  | none => simp [am_oI]
  | some t => exact propext ⟨fun z => absurd z (nI_pos (by have := h t rfl; omega)), fun z => by cases z⟩
noncomputable def tc_fin (P q : Nat) (td fs sn : Nat → Nat) (f : Nat → Option Nat) (i : Int32) : Int32 := match tc_bg (fun i => am_bt 1 (nI (td i))) f P with
  | none => -2
  | some p => if i ≤ nI ((f p).getD 0) then nI (tc_wk q fs sn f i.toNatClampNeg p) else -2
section TRD
variable {d o P q : Nat} {st td fs sn : Nat → Nat} {σ : am_St} {f : Nat → Option Nat}
theorem sp_5_wayBegin (hS : am_Sm σ o P q st td fs sn) (hf : ∀ i e, f i = some e → e < 200) (hD : ∀ i, i < P → am_A σ o 12 i = am_oI (-1) (f i)) : am_C false ya_5_wayBegin d [.ref (am_oid o)] σ (fun r τ => τ = σ ∧ r = some (.int (am_oI (-1) (tc_bg (fun i => am_bt 1 (nI (td i))) f P)))) := by
  obtain ⟨ho, hP, hq, h4, h5, h6, -, -, -, -⟩ := id hS
  obtain ⟨good, hg⟩ : ∃ good : Nat → Bool, good = fun i => am_bt 1 (nI (td i)) := ⟨_, rfl⟩
  rw [← hg]
  generalize hQ : (fun (r : Option Value) (τ : am_St) => τ = σ ∧ r = some (.int (am_oI (-1) (tc_bg good f P)))) = Q
  have loop : ∀ (j i : Nat), i + j = P → ∀ a3 : Option Value, am_T false ya_5_wayBegin d Q 4 [some (.ref (am_oid o)), some (.int (am_oI (-1) (tc_bg good f i))), some (.int (nI i)), a3] [] σ := by
    intro j
    induction j with
    | zero =>
      intro i hi a3
      have : i = P := by omega
      subst this
      refine kb_5_wayBegin_4 (kt := fun _ => kb_5_wayBegin_69 ?_) (kf := fun z => absurd (by rw [h4]; exact nI_le (by omega) (by omega)) z)
      rw [← hQ]; exact ⟨rfl, rfl⟩
    | succ j ih =>
      intro i hi a3
      have v : vp_in (nI i) 200 := vp_in_nI (by omega) (by omega)
      have c : (nI i).toNatClampNeg = i := nI_clamp (by omega)
      have eT : am_A σ o 3 (nI i).toNatClampNeg = nI (td i) := by rw [c]; exact (h6 i (by omega)).2.2.1
      have eD : am_A σ o 12 (nI i).toNatClampNeg = am_oI (-1) (f i) := by rw [c]; exact hD i (by omega)
      have next := ih (i + 1) (by omega)
      have e : tc_bg good f (i + 1) = (match (if good i = true then f i else none) with | none => tc_bg good f i | some e => match tc_bg good f i with | none => some i | some b => if e < (f b).getD 0 then some i else some b) := rfl
      have no : (if good i = true then f i else none) = none → ∀ a3 : Option Value, am_T false ya_5_wayBegin d Q 63 [some (.ref (am_oid o)), some (.int (am_oI (-1) (tc_bg good f i))), some (.int (nI i)), a3] [] σ := fun z a3 => by
        refine kb_5_wayBegin_63 (k := ?_)
        rw [nI_1]
        have := next a3
        rw [e, z] at this
        exact this
      refine kb_5_wayBegin_4 (kt := fun z => absurd z (by rw [h4]; exact nI_ge (by omega) (by omega))) (kf := fun _ => ?_)
      refine kb_5_wayBegin_12 (hi0 := v) (kt := fun z => ?_) (kf := fun z => ?_)
      · rw [eT, am_bt_0] at z
        refine kb_5_wayBegin_36 (k := kb_5_wayBegin_37 (kt := fun _ => no ?_ _) (kf := fun z => absurd rfl z))
        rw [if_neg (by rw [hg]; dsimp only; rw [z]; decide)]
      · rw [eT, am_bt_0] at z
        have hgi : good i = true := by rw [hg]; simpa using z
        rw [if_pos hgi] at no e
        refine kb_5_wayBegin_23 (hi0 := v) (kt := fun y => ?_) (kf := fun y => ?_)
        · rw [eD, am_oI_l (fun t ht => hf i t ht)] at y
          exact kb_5_wayBegin_36 (k := kb_5_wayBegin_37 (kt := fun _ => no y _) (kf := fun z => absurd rfl z))
        · rw [eD, am_oI_l (fun t ht => hf i t ht)] at y
          cases hfi : f i with
          | none => exact absurd hfi y
          | some e1 =>
            rw [hfi] at e
            dsimp only at e
            have he1 := hf i e1 hfi
            refine kb_5_wayBegin_32 (k := kb_5_wayBegin_37 (kt := fun z => absurd z (by decide)) (kf := fun _ => ?_))
            cases hb : tc_bg good f i with
            | none =>
              rw [hb] at e
              dsimp only at e
              refine kb_5_wayBegin_42 (kt := fun _ => kb_5_wayBegin_61 (k := kb_5_wayBegin_63 (k := ?_))) (kf := fun z => absurd am_neg1 z)
              rw [nI_1]
              have := next (some (.int 1))
              rw [e] at this
              exact this
            | some b =>
              obtain ⟨b1, -, e2, b3⟩ := tc_bg_some i hb
              have he2 := hf b e2 b3
              rw [hb] at e
              dsimp only at e
              rw [b3] at e
              have cb : (nI b).toNatClampNeg = b := nI_clamp (by omega)
              have eB : am_A σ o 12 (nI b).toNatClampNeg = nI e2 := by rw [cb, hD b (by omega), b3]; rfl
              have eI : am_A σ o 12 (nI i).toNatClampNeg = nI e1 := by rw [eD, hfi]; rfl
              show am_T false ya_5_wayBegin d Q 42 [_, some (.int (nI b)), _, _] [] σ
              refine kb_5_wayBegin_42 (kt := fun z => absurd z (nI_pos (by omega))) (kf := fun _ => ?_)
              refine kb_5_wayBegin_46 (hi0 := v) (hi1 := vp_in_nI (by omega) (by omega)) (kt := fun z => ?_) (kf := fun z => ?_)
              · rw [eB, eI, nI_leI (by omega) (by omega)] at z
                refine kb_5_wayBegin_63 (k := ?_)
                rw [nI_1]
                have := next (some (.int 1))
                rw [e, if_neg (by show ¬ e1 < e2; omega)] at this
                exact this
              · rw [eB, eI, nI_leI (by omega) (by omega)] at z
                refine kb_5_wayBegin_61 (k := kb_5_wayBegin_63 (k := ?_))
                rw [nI_1]
                have := next (some (.int 1))
                rw [e, if_pos (by show e1 < e2; omega)] at this
                exact this
  exact am_enter rfl (by simp [Value.category]) (Nat.le_of_ble_eq_true rfl) (kb_5_wayBegin_0 (k := loop P 0 (by omega) none))
theorem sp_5_wayOnwards (hS : am_Sm σ o P q st td fs sn) (hf : ∀ i e, f i = some e → e < 200) (hD : ∀ i, i < P → am_A σ o 12 i = am_oI (-1) (f i)) {p e : Nat} (hp : p < P) (hpe : f p = some (e + 1)) : am_C false ya_5_wayOnwards d [.ref (am_oid o), .int (nI p)] σ (fun r τ => τ = σ ∧ r = some (.int (am_oI (-1) (tc_nx q fs sn f p e)))) := by
  obtain ⟨ho, hP, hq, h4, h5, h6, ⟨c1, c2, c3, c4⟩, -, -, -⟩ := id hS
  have he := hf p _ hpe
  generalize hQ : (fun (r : Option Value) (τ : am_St) => τ = σ ∧ r = some (.int (am_oI (-1) (tc_nx q fs sn f p e)))) = Q
  have eDp : am_A σ o 12 (nI p).toNatClampNeg - 1 = nI e := by rw [nI_clamp (by omega), hD p hp, hpe]; exact nI_pred e
  have loop : ∀ (n lf : Nat), n ≤ q → n ≤ lf → lf ≤ 300 → ∀ (x : Option Nat) (a5 : Option Value), (∀ m, x = some m → m < P) → tc_mn (fun b => ∃ k, n ≤ k ∧ k < q ∧ fs k = p ∧ sn k = b ∧ f b = some e) x → am_T false ya_5_wayOnwards d Q 15 [some (.ref (am_oid o)), some (.int (nI p)), some (.int (am_oI (-1) x)), some (.int (am_lo fs p n)), some (.int (nI lf)), a5] [] σ := by
    intro n
    induction n using Nat.strongRecOn with
    | ind n ih =>
      intro lf hnq hnl hl3 x a5 hx hm
      rcases am_lo_cases fs p n with ⟨g1, g2⟩ | ⟨k, g1, g2, g3, g4⟩
      · rw [g1]
        refine kb_5_wayOnwards_15 (kt := fun _ => kb_5_wayOnwards_76 ?_) (kf := fun z => absurd am_neg1 z)
        rw [← hQ]
        refine ⟨rfl, ?_⟩
        rw [tc_nx_eq (hm.cg (fun b => ⟨fun ⟨k, k1, k2, k3⟩ => ⟨k, ?_, k1, k2, k3⟩, fun ⟨k, _, k1, k2, k3⟩ => ⟨k, k1, k2, k3⟩⟩))]
        rcases Nat.lt_or_ge k n with c | c
        · exact absurd k2 (g2 k c)
        · exact c
      · rw [g2]
        have hk : k < q := by omega
        have vk : vp_in (nI k) 300 := vp_in_nI (by omega) (by omega)
        obtain ⟨hfk, hsk⟩ := c4 k hk
        have eS : am_A σ o 5 (nI k).toNatClampNeg = nI (sn k) := by rw [nI_clamp (by omega)]; exact c3 k hk
        have eD : am_A σ o 12 (am_A σ o 5 (nI k).toNatClampNeg).toNatClampNeg = am_oI (-1) (f (sn k)) := by rw [eS, nI_clamp (by omega)]; exact hD _ hsk
        have go : ∀ (x' : Option Nat), (∀ m, x' = some m → m < P) → tc_mn (fun b => ∃ k', k ≤ k' ∧ k' < q ∧ fs k' = p ∧ sn k' = b ∧ f b = some e) x' → am_T false ya_5_wayOnwards d Q 63 [some (.ref (am_oid o)), some (.int (nI p)), some (.int (am_oI (-1) x')), some (.int (nI k)), some (.int (nI lf)), some (.int (nI (sn k)))] [] σ := fun x' hx' hm' => by
          refine kb_5_wayOnwards_63 (hi0 := vk) (k := ?_)
          have eN : am_A σ o 8 (nI k).toNatClampNeg = am_lo fs p k := by rw [nI_clamp (by omega), c2 k hk, g3]
          have e1 : nI lf + -1 = nI (lf - 1) := by
            obtain ⟨m, rfl⟩ : ∃ m, lf = m + 1 := ⟨lf - 1, by omega⟩
            exact nI_dec m
          rw [eN, e1]
          exact ih k g1 (lf - 1) (by omega) (by omega) (by omega) x' _ hx' hm'
        have st0 : ∀ b, (∃ k', k ≤ k' ∧ k' < q ∧ fs k' = p ∧ sn k' = b ∧ f b = some e) ↔ ((sn k = b ∧ f b = some e) ∨ ∃ k', n ≤ k' ∧ k' < q ∧ fs k' = p ∧ sn k' = b ∧ f b = some e) := fun b => by
          constructor
          · rintro ⟨k', k1, k2, k3, k4, k5⟩
            rcases Nat.lt_or_ge k' n with c | c
            · rcases Nat.lt_or_ge k k' with c5 | c5
              · exact absurd k3 (g4 k' c5 c)
              · have : k' = k := by omega
                rw [this] at k4
                exact Or.inl ⟨k4, k5⟩
            · exact Or.inr ⟨k', c, k2, k3, k4, k5⟩
          · rintro (⟨k4, k5⟩ | ⟨k', k1, k2, k3, k4, k5⟩)
            · exact ⟨k, Nat.le_refl _, hk, g3, k4, k5⟩
            · exact ⟨k', by omega, k2, k3, k4, k5⟩
        refine kb_5_wayOnwards_15 (kt := fun z => absurd z (nI_pos (by omega))) (kf := fun _ => ?_)
        refine kb_5_wayOnwards_19 (kt := fun z => absurd z (nI_nle (by omega) (by omega))) (kf := fun _ => ?_)
        refine kb_5_wayOnwards_24 (hi0 := vk) (hi2 := by rw [eS]; exact vp_in_nI (by omega) (by omega)) (hi3 := vp_in_nI (by omega) (by omega)) (kt := fun z => ?_) (kf := fun z => ?_)
        · rw [eD, eDp, am_oI_eq (fun t ht => hf _ t ht) (by omega)] at z
          rw [eS]
          refine go x hx (hm.cg (fun b => (st0 b).trans ⟨fun h => h.elim (fun h => absurd (by rw [h.1]; exact h.2) z) id, Or.inr⟩))
        · rw [eD, eDp, am_oI_eq (fun t ht => hf _ t ht) (by omega)] at z
          rw [eS]
          have st1 : ∀ b, (∃ k', k ≤ k' ∧ k' < q ∧ fs k' = p ∧ sn k' = b ∧ f b = some e) ↔ (b = sn k ∨ ∃ k', n ≤ k' ∧ k' < q ∧ fs k' = p ∧ sn k' = b ∧ f b = some e) := fun b => (st0 b).trans ⟨fun h => h.elim (fun h => Or.inl h.1.symm) Or.inr, fun h => h.elim (fun h => Or.inl ⟨h.symm, by rw [h]; exact z⟩) Or.inr⟩
          cases x with
          | none =>
            refine kb_5_wayOnwards_50 (kt := fun _ => kb_5_wayOnwards_60 (k := ?_)) (kf := fun z => absurd am_neg1 z)
            exact go (some (sn k)) (fun m hm => by injection hm with hm; rw [← hm]; exact hsk) ((hm.add0 _).cg st1)
          | some m =>
            have hm2 := hx m rfl
            show am_T false ya_5_wayOnwards d Q 50 [_, _, some (.int (nI m)), _, _, _] [] σ
            refine kb_5_wayOnwards_50 (kt := fun z => absurd z (nI_pos (by omega))) (kf := fun _ => ?_)
            refine kb_5_wayOnwards_54 (kt := fun y => ?_) (kf := fun y => kb_5_wayOnwards_60 (k := ?_))
            · rw [nI_leI (by omega) (by omega)] at y
              exact go (some m) hx ((hm.add1 _ y).cg st1)
            · rw [nI_leI (by omega) (by omega)] at y
              exact go (some (sn k)) (fun m hm => by injection hm with hm; rw [← hm]; exact hsk) ((hm.add2 _ y).cg st1)
  refine am_enter rfl (by simp [Value.category]) (Nat.le_of_ble_eq_true rfl) (kb_5_wayOnwards_0 (hi1 := vp_in_nI (by omega) (by omega)) (k := ?_))
  rw [h5, nI_clamp (show p < 2 ^ 31 by omega), c1 p hp]
  exact loop q q (Nat.le_refl _) (Nat.le_refl _) hq none _ (fun m hm => by cases hm) ⟨fun _ b ⟨k, k1, k2, _⟩ => by omega, fun m hm => by cases hm⟩
/-- a step on the way -/
theorem tc_nx_ok {bad : Nat → Bool} (hd : ds_ok P q bad fs sn f) (hab : ∀ k, k < q → fs k < P ∧ sn k < P) {p e : Nat} (hpe : f p = some (e + 1)) : ∃ m, tc_nx q fs sn f p e = some m ∧ m < P ∧ f m = some e := by
  obtain ⟨k, hk, h1, h2⟩ := hd.2.2.1 p e hpe
  have hex : ∃ x, tc_mn (fun b => ∃ k, k < q ∧ fs k = p ∧ sn k = b ∧ f b = some e) x := by
    obtain ⟨m, a, b⟩ := pk_least (fun b => ∃ k, k < q ∧ fs k = p ∧ sn k = b ∧ f b = some e) ⟨sn k, k, hk, h1, rfl, h2⟩
    refine ⟨some m, fun z => (by cases z), fun m' hm => ?_⟩
    injection hm with hm
    subst hm
    exact ⟨a, fun b' hb => by rcases Nat.lt_or_ge b' m with c | c; exact absurd hb (b b' c); exact c⟩
  obtain ⟨x, hx⟩ := hex
  rw [← tc_nx_eq hx]
  cases x with
  | none => exact absurd ⟨k, hk, h1, rfl, h2⟩ (hx.1 rfl (sn k))
  | some m =>
    obtain ⟨⟨k', k1, k2, k3, k4⟩, -⟩ := hx.2 m rfl
    exact ⟨m, rfl, by rw [← k3]; exact (hab k' k1).2, k4⟩
theorem sp_5_onWay (hS : am_Sm σ o P q st td fs sn) {x : Int32} (hx : 0 ≤ x) : am_C false ya_5_onWay (d + 1) [.ref (am_oid o), .int x] σ (fun r τ => r = some (.int (tc_fin P q td fs sn (ds_f P q (am_tg td 2 P) fs sn) x)) ∧ ∃ D qf : Nat → Int32, τ = ms_St σ o D qf) := by
  have ho := hS.1
  have hP := hS.2.1
  have hab : ∀ k, k < q → fs k < P ∧ sn k < P := hS.2.2.2.2.2.2.1.2.2.2
  obtain ⟨i, hi, rfl⟩ := nI_of (x := x) (fun z => by
    have h1 := Int32.lt_iff_toInt_lt.mp z
    have h2 := Int32.le_iff_toInt_le.mp hx
    omega)
  refine am_enter rfl (by simp [Value.category]) (Nat.le_of_ble_eq_true rfl) ?_
  refine kb_5_onWay_0 (hC := sp_5_measure hS) (k := fun r τ hr => ?_)
  obtain ⟨rfl, f, D, qf, h1, h2, h3, hτ⟩ := hr
  rw [← ds_eq h1]
  have hSt : am_Sm τ o P q st td fs sn := by rw [hτ]; exact hS.same (fun _ _ => rfl) (fun k hk => ms_An (by omega) (by omega))
  have hDt : ∀ i, i < P → am_A τ o 12 i = am_oI (-1) (f i) := by rw [hτ, ms_A12]; exact h3
  refine kb_5_onWay_4 (hC := sp_5_wayBegin hSt h2 hDt) (k := fun r τ' hr => ?_)
  obtain ⟨rfl, rfl⟩ := hr
  obtain ⟨good, hg⟩ : ∃ good : Nat → Bool, good = fun i => am_bt 1 (nI (td i)) := ⟨_, rfl⟩
  have eF : tc_fin P q td fs sn f (nI i) = (match tc_bg good f P with | none => -2 | some p => if nI i ≤ nI ((f p).getD 0) then nI (tc_wk q fs sn f i p) else -2) := by
    unfold tc_fin; rw [hg, nI_clamp hi]
  rw [← hg]
  cases hb : tc_bg good f P with
  | none =>
    rw [hb] at eF
    exact kb_5_onWay_8 (kt := fun _ => kb_5_onWay_23 ⟨by rw [eF], D, qf, hτ⟩) (kf := fun z => absurd am_neg1 z)
  | some p =>
    obtain ⟨p1, -, e, p3⟩ := tc_bg_some P hb
    have he := h2 p e p3
    rw [hb] at eF
    dsimp only at eF
    rw [p3] at eF
    have eD : am_A τ' o 12 (nI p).toNatClampNeg = nI e := by rw [nI_clamp (by omega), hDt p p1, p3]; rfl
    show am_T false ya_5_onWay (d + 1) _ 8 _ [.int (nI p)] _
    refine kb_5_onWay_8 (kt := fun z => absurd z (nI_pos (by omega))) (kf := fun _ => ?_)
    refine kb_5_onWay_13 (hi0 := vp_in_nI (by omega) (by omega)) (kt := fun z => ?_) (kf := fun z => kb_5_onWay_23 ⟨?_, D, qf, hτ⟩)
    · rw [eD] at z
      have eF' : tc_fin P q td fs sn f (nI i) = nI (tc_wk q fs sn f i p) := by rw [eF]; exact if_pos z
      have hie : i ≤ e := (nI_leI hi (by omega)).mp z
      refine kb_5_onWay_26 (k := ?_)
      have loop : ∀ (j k p e : Nat), k + j = i → p < P → f p = some e → j ≤ e → tc_fin P q td fs sn f (nI i) = nI (tc_wk q fs sn f j p) → am_T false ya_5_onWay (d + 1) (fun r τ => r = some (.int (tc_fin P q td fs sn f (nI i))) ∧ ∃ D qf : Nat → Int32, τ = ms_St σ o D qf) 28 [some (.ref (am_oid o)), some (.int (nI i)), some (.int (nI p)), some (.int (nI k))] [] τ' := by
        intro j
        induction j with
        | zero =>
          intro k p e hk hp hpe hje hw
          refine kb_5_onWay_28 (kt := fun _ => ?_) (kf := fun z => absurd (nI_le (by omega) (by omega)) z)
          refine kb_5_onWay_49 (kt := fun z => absurd z (nI_pos (by omega))) (kf := fun _ => kb_5_onWay_53 (k := kb_5_onWay_59 ⟨?_, D, qf, hτ⟩))
          rw [hw]
          rfl
        | succ j ih =>
          intro k p e hk hp hpe hje hw
          obtain ⟨e', rfl⟩ : ∃ e', e = e' + 1 := ⟨e - 1, by omega⟩
          obtain ⟨m, m1, m2, m3⟩ := tc_nx_ok h1 hab hpe
          refine kb_5_onWay_28 (kt := fun z => absurd z (nI_ge (by omega) (by omega))) (kf := fun _ => ?_)
          refine kb_5_onWay_33 (kt := fun z => absurd z (nI_pos (by omega))) (kf := fun _ => ?_)
          refine kb_5_onWay_37 (hC := sp_5_wayOnwards hSt h2 hDt hp hpe) (k := fun r τ2 hr => ?_)
          obtain ⟨hτ2, rfl⟩ := hr
          subst hτ2
          rw [m1]
          refine kb_5_onWay_42 (k := ?_)
          rw [nI_1]
          refine ih (k + 1) m e' (by omega) m2 m3 (by omega) ?_
          rw [hw]
          show nI (tc_wk q fs sn f j ((tc_nx q fs sn f p ((f p).getD 0 - 1)).getD 0)) = _
          rw [hpe, show (some (e' + 1)).getD 0 - 1 = e' from rfl, m1]
          rfl
      have := loop i 0 p e (by omega) p1 p3 hie eF'
      rw [nI_0] at this
      exact this
    · rw [eD] at z
      rw [eF]; exact (congrArg _ (congrArg _ (if_neg z))).symm
end TRD
