/-! the way from a good point to a bad one: distances as values; the class's measure -/
def ds_ok (P q : Nat) (bad : Nat → Bool) (fs sn : Nat → Nat) (f : Nat → Option Nat) : Prop :=
  (∀ i, P ≤ i → f i = none) ∧ (∀ i, i < P → (f i = some 0 ↔ bad i = true)) ∧ (∀ i e, f i = some (e + 1) → ∃ k, k < q ∧ fs k = i ∧ f (sn k) = some e) ∧ ∀ k e, k < q → f (sn k) = some e → ∃ e', e' ≤ e + 1 ∧ f (fs k) = some e'
theorem ds_le {P q : Nat} {bad : Nat → Bool} {fs sn : Nat → Nat} {f g : Nat → Option Nat} (hf : ds_ok P q bad fs sn f) (hg : ds_ok P q bad fs sn g) : ∀ e i, f i = some e → ∃ e', e' ≤ e ∧ g i = some e' := by
  intro e
  induction e with
  | zero =>
    intro i h
    have hi : i < P := by
      rcases Nat.lt_or_ge i P with c | c
      · exact c
      · rw [hf.1 i c] at h; cases h
    exact ⟨0, Nat.le_refl _, (hg.2.1 i hi).mpr ((hf.2.1 i hi).mp h)⟩
  | succ e ih =>
    intro i h
    obtain ⟨k, hk, h1, h2⟩ := hf.2.2.1 i e h
    obtain ⟨e1, h3, h4⟩ := ih _ h2
    obtain ⟨e2, h5, h6⟩ := hg.2.2.2 k e1 hk h4
    exact ⟨e2, by omega, by rw [← h1]; exact h6⟩
theorem ds_uniq {P q : Nat} {bad : Nat → Bool} {fs sn : Nat → Nat} {f g : Nat → Option Nat} (hf : ds_ok P q bad fs sn f) (hg : ds_ok P q bad fs sn g) : f = g := by
  funext i
  cases h1 : f i with
  | none =>
    cases h2 : g i with
    | none => rfl
    | some e =>
      obtain ⟨e', -, h⟩ := ds_le hg hf e i h2
      rw [h1] at h; cases h
  | some e =>
    obtain ⟨e', h3, h4⟩ := ds_le hf hg e i h1
    obtain ⟨e2, h5, h6⟩ := ds_le hg hf e' i h4
    rw [h1] at h6
    injection h6 with h6
    rw [h4]
    congr 1
    omega
noncomputable def ds_f (P q : Nat) (bad : Nat → Bool) (fs sn : Nat → Nat) : Nat → Option Nat := Classical.epsilon (ds_ok P q bad fs sn)
theorem ds_eq {P q : Nat} {bad : Nat → Bool} {fs sn : Nat → Nat} {f : Nat → Option Nat} (hf : ds_ok P q bad fs sn f) : f = ds_f P q bad fs sn := ds_uniq hf (Classical.epsilon_spec (p := ds_ok P q bad fs sn) ⟨f, hf⟩)
def ms_St (σ : am_St) (o : Nat) (D qf : Nat → Int32) : am_St := am_sA (am_sA σ o 12 D) o 11 qf
section MSS
variable {σ : am_St} {o : Nat} {D qf : Nat → Int32}
theorem ms_12 (D' : Nat → Int32) : am_sA (ms_St σ o D qf) o 12 D' = ms_St σ o D' qf := by unfold ms_St; rw [am_sA_comm _ o 11 o 12 _ _ (by simp), am_sA_sA]
theorem ms_11 (q' : Nat → Int32) : am_sA (ms_St σ o D qf) o 11 q' = ms_St σ o D q' := by unfold ms_St; rw [am_sA_sA]
theorem ms_A12 : am_A (ms_St σ o D qf) o 12 = D := by unfold ms_St; rw [am_A_sA, if_neg (by simp), am_A_sA, if_pos ⟨rfl, rfl⟩]
theorem ms_A11 : am_A (ms_St σ o D qf) o 11 = qf := by unfold ms_St; rw [am_A_sA, if_pos ⟨rfl, rfl⟩]
theorem ms_An {o' k : Nat} (h1 : ¬ (k = 11 ∧ o' = o)) (h2 : ¬ (k = 12 ∧ o' = o)) : am_A (ms_St σ o D qf) o' k = am_A σ o' k := by unfold ms_St; rw [am_A_sA, if_neg h1, am_A_sA, if_neg h2]
theorem ms_I (o' k : Nat) : am_I (ms_St σ o D qf) o' k = am_I σ o' k := rfl
theorem ms_id : ms_St σ o (am_A σ o 12) (am_A σ o 11) = σ := by unfold ms_St; rw [am_sA_id, am_sA_id]
end MSS
def ms_Inv (P q : Nat) (bad : Nat → Bool) (fs sn : Nat → Nat) (f : Nat → Option Nat) (D qf : Nat → Int32) (lv : Nat → Nat) (hd tl : Nat) : Prop :=
  (∀ i, P ≤ i → f i = none) ∧ (∀ i, i < P → (f i = some 0 ↔ bad i = true)) ∧ (∀ i e, f i = some (e + 1) → ∃ k, k < q ∧ fs k = i ∧ f (sn k) = some e) ∧ (∀ i, i < P → D i = am_oI (-1) (f i)) ∧ hd ≤ tl ∧ tl = am_cn (fun i => (f i).isSome) P ∧ (∀ j, j < tl → lv j ≤ j ∧ ∃ i, i < P ∧ qf j = nI i ∧ f i = some (lv j)) ∧ (∀ i e, f i = some e → ∃ j, j < tl ∧ qf j = nI i) ∧ (∀ j j', j ≤ j' → j' < tl → lv j ≤ lv j') ∧ (∀ j, hd < tl → j < tl → lv j ≤ lv hd + 1) ∧ ∀ j i, j < hd → qf j = nI i → i < P → ∀ k, k < q → sn k = i → ∃ e', e' ≤ lv j + 1 ∧ f (fs k) = some e'
section MSI
variable {P q : Nat} {bad : Nat → Bool} {fs sn : Nat → Nat} {f : Nat → Option Nat} {D qf : Nat → Int32} {lv : Nat → Nat} {hd tl : Nat}
theorem ms_Inv.lvl (h : ms_Inv P q bad fs sn f D qf lv hd tl) (hP : P ≤ 200) {i e : Nat} (hi : f i = some e) : ∃ j, j < tl ∧ qf j = nI i ∧ lv j = e := by
  obtain ⟨i1, i2, i3, i4, i5, i6, i7, i8, i9, i10, i11⟩ := h
  obtain ⟨j, h1, h2⟩ := i8 i e hi
  obtain ⟨-, i', h3, h4, h5⟩ := i7 j h1
  have hiP : i < P := by
    rcases Nat.lt_or_ge i P with c | c
    · exact c
    · rw [i1 i c] at hi; cases hi
  have : i' = i := nI_inj (by omega) (by omega) (h4.symm.trans h2)
  subst this
  rw [hi] at h5
  injection h5 with h5
  exact ⟨j, h1, h2, h5.symm⟩
theorem ms_Inv.at_ (h : ms_Inv P q bad fs sn f D qf lv hd tl) (hP : P ≤ 200) {j i : Nat} (hj : j < tl) (hi : qf j = nI i) (hiP : i < P) : f i = some (lv j) := by
  obtain ⟨-, i', h3, h4, h5⟩ := h.2.2.2.2.2.2.1 j hj
  have : i' = i := nI_inj (by omega) (by omega) (h4.symm.trans hi)
  rw [← this]; exact h5
theorem ms_Inv.add (h : ms_Inv P q bad fs sn f D qf lv hd tl) (hP : P ≤ 200) (hdt : hd < tl) {k p : Nat} (hk : k < q) (hp : qf hd = nI p) (hpP : p < P) (hs : sn k = p) (hb : fs k < P) (hf : f (fs k) = none) :
    ms_Inv P q bad fs sn (fun i => if i = fs k then some (lv hd + 1) else f i) (upd D (fs k) (nI (lv hd + 1))) (upd qf tl (nI (fs k))) (fun j => if j = tl then lv hd + 1 else lv j) hd (tl + 1) := by
  have hfp := h.at_ hP hdt hp hpP
  obtain ⟨i1, i2, i3, i4, i5, i6, i7, i8, i9, i10, i11⟩ := id h
  have hne : p ≠ fs k := fun e => by rw [e, hf] at hfp; cases hfp
  have nf : ∀ i e, f i = some e → i ≠ fs k := fun i e hi c => by rw [c, hf] at hi; cases hi
  refine ⟨fun i hi => ?_, fun i hi => ?_, fun i e hi => ?_, fun i hi => ?_, by omega, ?_, fun j hj => ?_, fun i e hi => ?_, fun j j' h1 h2 => ?_, fun j h1 h2 => ?_, fun j i h1 h2 h3 k' h4 h5 => ?_⟩
  · dsimp only; rw [if_neg (by omega)]; exact i1 i hi
  · dsimp only
    by_cases c : i = fs k
    · rw [if_pos c]
      constructor
      · intro z; injection z with z; omega
      · intro z
        have := (i2 i hi).mpr z
        rw [c, hf] at this; cases this
    · rw [if_neg c]; exact i2 i hi
  · dsimp only at hi ⊢
    by_cases c : i = fs k
    · rw [if_pos c] at hi
      injection hi with hi
      refine ⟨k, hk, c.symm, ?_⟩
      rw [hs, if_neg hne, hfp]
      congr 1
      omega
    · rw [if_neg c] at hi
      obtain ⟨k', g1, g2, g3⟩ := i3 i e hi
      exact ⟨k', g1, g2, by rw [if_neg (nf _ _ g3)]; exact g3⟩
  · dsimp only
    by_cases c : i = fs k
    · rw [c, upd_s, if_pos rfl]; rfl
    · rw [upd_n c, if_neg c]; exact i4 i hi
  · rw [i6]
    refine (am_cn_add hb (by simp only [hf]; rfl) (by simp) (fun j hj => ?_)).symm
    simp only [if_neg hj]
  · dsimp only
    by_cases c : j = tl
    · subst c
      rw [if_pos rfl]
      have := (i7 hd hdt).1
      exact ⟨by omega, fs k, hb, by rw [upd_s], by rw [if_pos rfl]⟩
    · rw [if_neg c]
      obtain ⟨g1, i, g2, g3, g4⟩ := i7 j (by omega)
      exact ⟨g1, i, g2, by rw [upd_n c]; exact g3, by rw [if_neg (nf _ _ g4)]; exact g4⟩
  · dsimp only at hi
    by_cases c : i = fs k
    · exact ⟨tl, by omega, by rw [upd_s, c]⟩
    · rw [if_neg c] at hi
      obtain ⟨j, g1, g2⟩ := i8 i e hi
      exact ⟨j, by omega, by rw [upd_n (by omega)]; exact g2⟩
  · dsimp only
    by_cases c : j' = tl
    · rw [if_pos c]
      by_cases c2 : j = tl
      · rw [if_pos c2]; exact Nat.le_refl _
      · rw [if_neg c2]; exact i10 j hdt (by omega)
    · rw [if_neg c, if_neg (by omega)]; exact i9 j j' h1 (by omega)
  · dsimp only
    rw [if_neg (show ¬ hd = tl by omega)]
    by_cases c : j = tl
    · rw [if_pos c]; exact Nat.le_refl _
    · rw [if_neg c]; exact i10 j hdt (by omega)
  · rw [upd_n (by omega)] at h2
    obtain ⟨e', g1, g2⟩ := i11 j i h1 h2 h3 k' h4 h5
    refine ⟨e', ?_, ?_⟩
    · dsimp only; rw [if_neg (by omega)]; exact g1
    · dsimp only; rw [if_neg (nf _ _ g2)]; exact g2
theorem ms_Inv.next (h : ms_Inv P q bad fs sn f D qf lv hd tl) (hP : P ≤ 200) (hdt : hd < tl) {p : Nat} (hp : qf hd = nI p) (hpP : p < P) (hd2 : ∀ k, k < q → sn k = p → ∃ e', f (fs k) = some e') : ms_Inv P q bad fs sn f D qf lv (hd + 1) tl := by
  have hlv : ∀ i e, f i = some e → ∃ j, j < tl ∧ qf j = nI i ∧ lv j = e := fun i e hi => h.lvl hP hi
  obtain ⟨i1, i2, i3, i4, i5, i6, i7, i8, i9, i10, i11⟩ := id h
  refine ⟨i1, i2, i3, i4, by omega, i6, i7, i8, i9, fun j h1 h2 => ?_, fun j i h1 h2 h3 k h4 h5 => ?_⟩
  · have a := i10 j hdt h2
    have b := i9 hd (hd + 1) (by omega) h1
    omega
  · rcases Nat.lt_or_ge j hd with c | c
    · exact i11 j i c h2 h3 k h4 h5
    · have e : j = hd := by omega
      subst e
      have : i = p := nI_inj (by omega) (by omega) (h2.symm.trans hp)
      subst this
      obtain ⟨e', g1⟩ := hd2 k h4 h5
      obtain ⟨j', g2, g3, g4⟩ := hlv _ _ g1
      exact ⟨e', by rw [← g4]; exact i10 j' hdt g2, g1⟩
theorem ms_Inv.fin (h : ms_Inv P q bad fs sn f D qf lv tl tl) (hP : P ≤ 200) (hab : ∀ k, k < q → fs k < P ∧ sn k < P) : ds_ok P q bad fs sn f ∧ ∀ i e, f i = some e → e < 200 := by
  have hlv : ∀ i e, f i = some e → ∃ j, j < tl ∧ qf j = nI i ∧ lv j = e := fun i e hi => h.lvl hP hi
  obtain ⟨i1, i2, i3, i4, i5, i6, i7, i8, i9, i10, i11⟩ := id h
  refine ⟨⟨i1, i2, i3, fun k e hk hf => ?_⟩, fun i e hf => ?_⟩
  · obtain ⟨j, g1, g2, g3⟩ := hlv _ _ hf
    obtain ⟨e', g4, g5⟩ := i11 j _ g1 g2 (hab k hk).2 k hk rfl
    exact ⟨e', by omega, g5⟩
  · obtain ⟨j, g1, g2, g3⟩ := hlv _ _ hf
    have := (i7 j g1).1
    have h2 : tl ≤ P := by rw [i6]; exact am_cn_le _ _
    omega
end MSI
section TRC
variable {d o P q : Nat} {st td fs sn : Nat → Nat} {σ : am_St}
theorem sp_5_measure (hS : am_Sm σ o P q st td fs sn) : am_C false ya_5_measure d [.ref (am_oid o)] σ (fun r τ => r = none ∧ ∃ (f : Nat → Option Nat) (D qf : Nat → Int32), ds_ok P q (am_tg td 2 P) fs sn f ∧ (∀ i e, f i = some e → e < 200) ∧ (∀ i, i < P → D i = am_oI (-1) (f i)) ∧ τ = ms_St σ o D qf) := by
  obtain ⟨ho, hP, hq, h4, h5, h6, -, ⟨c1, c2, c3, c4⟩, -, -⟩ := id hS
  have hab : ∀ k, k < q → fs k < P ∧ sn k < P := fun k hk => ⟨(c4 k hk).2, (c4 k hk).1⟩
  generalize hQ : (fun (r : Option Value) (τ : am_St) => r = none ∧ ∃ (f : Nat → Option Nat) (D qf : Nat → Int32), ds_ok P q (am_tg td 2 P) fs sn f ∧ (∀ i e, f i = some e → e < 200) ∧ (∀ i, i < P → D i = am_oI (-1) (f i)) ∧ τ = ms_St σ o D qf) = Q
  have e0 : ∀ D qf : Nat → Int32, am_I (ms_St σ o D qf) o 0 = nI P := fun D qf => h4
  have e1 : ∀ D qf : Nat → Int32, am_I (ms_St σ o D qf) o 1 = nI q := fun D qf => h5
  -- the pairs of one point
  have inner : ∀ (hd p : Nat), p < P → (∀ (f : Nat → Option Nat) (D qf : Nat → Int32) (lv : Nat → Nat) (tl : Nat) (x3 x4 : Int32) (a5 : Option Value), ms_Inv P q (am_tg td 2 P) fs sn f D qf lv (hd + 1) tl → am_T false ya_5_measure d Q 157 [some (.ref (am_oid o)), some (.int (nI tl)), some (.int (nI hd)), some (.int x3), some (.int x4), a5] [] (ms_St σ o D qf)) →
      ∀ (n lf : Nat), n ≤ q → n ≤ lf → lf ≤ 300 → ∀ (f : Nat → Option Nat) (D qf : Nat → Int32) (lv : Nat → Nat) (tl : Nat) (a5 : Option Value), ms_Inv P q (am_tg td 2 P) fs sn f D qf lv hd tl → hd < tl → qf hd = nI p → (∀ k, n ≤ k → k < q → sn k = p → ∃ e', f (fs k) = some e') → am_T false ya_5_measure d Q 86 [some (.ref (am_oid o)), some (.int (nI tl)), some (.int (nI hd)), some (.int (am_lo sn p n)), some (.int (nI lf)), a5] [] (ms_St σ o D qf) := by
    intro hd p hp kx n
    induction n using Nat.strongRecOn with
    | ind n ih =>
      intro lf hnq hnl hl3 f D qf lv tl a5 hI hdt hqd hdone
      rcases am_lo_cases sn p n with ⟨g1, g2⟩ | ⟨k, g1, g2, g3, g4⟩
      · rw [g1]
        refine kb_5_measure_86 (kt := fun _ => kx f D qf lv tl _ _ _ (hI.next hP hdt hqd hp (fun k hk hak => ?_))) (kf := fun z => absurd am_neg1 z)
        rcases Nat.lt_or_ge k n with c | c
        · exact absurd hak (g2 k c)
        · exact hdone k c hk hak
      · rw [g2]
        have hk : k < q := by omega
        have vk : vp_in (nI k) 300 := vp_in_nI (by omega) (by omega)
        have hfk := (hab k hk).1
        have eF : am_A (ms_St σ o D qf) o 4 (nI k).toNatClampNeg = nI (fs k) := by rw [nI_clamp (by omega), ms_An (by simp) (by simp)]; exact c3 k hk
        have eD : am_A (ms_St σ o D qf) o 12 (am_A (ms_St σ o D qf) o 4 (nI k).toNatClampNeg).toNatClampNeg = am_oI (-1) (f (fs k)) := by rw [eF, nI_clamp (by omega), ms_A12]; exact hI.2.2.2.1 _ hfk
        have go : ∀ (f' : Nat → Option Nat) (D' qf' : Nat → Int32) (lv' : Nat → Nat) (tl' : Nat), ms_Inv P q (am_tg td 2 P) fs sn f' D' qf' lv' hd tl' → hd < tl' → qf' hd = nI p → (∀ i e, f i = some e → ∃ e', f' i = some e') → (∃ e', f' (fs k) = some e') → am_T false ya_5_measure d Q 144 [some (.ref (am_oid o)), some (.int (nI tl')), some (.int (nI hd)), some (.int (nI k)), some (.int (nI lf)), some (.int (nI (fs k)))] [] (ms_St σ o D' qf') := by
          intro f' D' qf' lv' tl' hI' hdt' hqd' hmono hfk'
          refine kb_5_measure_144 (hi0 := vk) (k := ?_)
          have eN : am_A (ms_St σ o D' qf') o 10 (nI k).toNatClampNeg = am_lo sn p k := by rw [nI_clamp (by omega), ms_An (by simp) (by simp), c2 k hk, g3]
          have e1 : nI lf + -1 = nI (lf - 1) := by
            obtain ⟨m, rfl⟩ : ∃ m, lf = m + 1 := ⟨lf - 1, by omega⟩
            exact nI_dec m
          rw [eN, e1]
          refine ih k g1 (lf - 1) (by omega) (by omega) (by omega) f' D' qf' lv' tl' _ hI' hdt' hqd' (fun k' c1 c2 c3 => ?_)
          rcases Nat.lt_or_ge k k' with c | c
          · rcases Nat.lt_or_ge k' n with c4 | c4
            · exact absurd c3 (g4 k' c c4)
            · obtain ⟨e', he'⟩ := hdone k' c4 c2 c3
              exact hmono _ _ he'
          · have : k' = k := by omega
            rw [this]; exact hfk'
        refine kb_5_measure_86 (kt := fun z => absurd z (nI_pos (by omega))) (kf := fun _ => ?_)
        refine kb_5_measure_90 (kt := fun z => absurd z (nI_nle (by omega) (by omega))) (kf := fun _ => ?_)
        have htl : tl ≤ P := by rw [hI.2.2.2.2.2.1]; exact am_cn_le _ _
        refine kb_5_measure_95 (hi0 := vk) (hi2 := by rw [eF]; exact vp_in_nI (by omega) (by omega)) (kt := fun z => ?_) (kf := fun z => ?_)
        · rw [eD] at z
          rw [eF]
          cases hc : f (fs k) with
          | none => rw [hc] at z; exact absurd z (by decide)
          | some e => exact go f D qf lv tl hI hdt hqd (fun i e hi => ⟨e, hi⟩) ⟨e, hc⟩
        · rw [eD] at z
          rw [eF]
          cases hc : f (fs k) with
          | some e =>
            obtain ⟨j, j1, -, j2⟩ := hI.lvl hP hc
            have := (hI.2.2.2.2.2.2.1 j j1).1
            rw [hc] at z
            exact absurd (nI_pos' (show e < 2 ^ 31 by omega)) z
          | none =>
            have hA := hI.add hP hdt hk hqd hp g3 hfk hc
            have htl2 : tl + 1 ≤ P := by rw [hA.2.2.2.2.2.1]; exact am_cn_le _ _
            have eQ : am_A (ms_St σ o D qf) o 11 (nI hd).toNatClampNeg = nI p := by rw [nI_clamp (by omega), ms_A11, hqd]
            have eP : am_A (ms_St σ o D qf) o 12 (nI p).toNatClampNeg = nI (lv hd) := by
              rw [nI_clamp (by omega), ms_A12, hI.2.2.2.1 p hp, hI.at_ hP hdt hqd hp]; rfl
            refine kb_5_measure_113 (hi0 := vp_in_nI (by omega) (by omega)) (hi1 := by rw [eQ]; exact vp_in_nI (by omega) (by omega)) (hi2 := vp_in_nI (by omega) (by omega)) (hi3 := vp_in_nI (by omega) (by omega)) (k := ?_)
            rw [eQ, eP, nI_1, nI_1, ms_12, ms_11, ms_A12, ms_A11, nI_clamp (show fs k < 2 ^ 31 by omega), nI_clamp (show tl < 2 ^ 31 by omega)]
            refine go _ _ _ _ (tl + 1) hA (by omega) (by rw [upd_n (by omega)]; exact hqd) (fun i e hi => ?_) ⟨lv hd + 1, by rw [if_pos rfl]⟩
            by_cases c : i = fs k
            · exact ⟨_, by rw [if_pos c]⟩
            · exact ⟨e, by rw [if_neg c]; exact hi⟩
  have fin : ∀ (f : Nat → Option Nat) (D qf : Nat → Int32) (lv : Nat → Nat) (tl : Nat) (a0 a1 a2 a3 a4 a5 : Option Value), ms_Inv P q (am_tg td 2 P) fs sn f D qf lv tl tl → am_T false ya_5_measure d Q 163 [a0, a1, a2, a3, a4, a5] [] (ms_St σ o D qf) := by
    intro f D qf lv tl a0 a1 a2 a3 a4 a5 hI
    refine kb_5_measure_163 (hq := ?_)
    rw [← hQ]
    obtain ⟨g1, g2⟩ := hI.fin hP hab
    exact ⟨rfl, f, D, qf, g1, g2, hI.2.2.2.1, rfl⟩
  have outer : ∀ (j hd : Nat), hd + j = P → ∀ (f : Nat → Option Nat) (D qf : Nat → Int32) (lv : Nat → Nat) (tl : Nat) (a3 a4 a5 : Option Value), ms_Inv P q (am_tg td 2 P) fs sn f D qf lv hd tl → am_T false ya_5_measure d Q 55 [some (.ref (am_oid o)), some (.int (nI tl)), some (.int (nI hd)), a3, a4, a5] [] (ms_St σ o D qf) := by
    intro j
    induction j with
    | zero =>
      intro hd hj f D qf lv tl a3 a4 a5 hI
      have htl : tl ≤ P := by rw [hI.2.2.2.2.2.1]; exact am_cn_le _ _
      have h1 := hI.2.2.2.2.1
      have : tl = hd := by omega
      subst this
      exact kb_5_measure_55 (kt := fun _ => fin f D qf lv _ _ _ _ _ _ _ hI) (kf := fun z => absurd (nI_le (Nat.le_refl _) (by omega)) z)
    | succ j ih =>
      intro hd hj f D qf lv tl a3 a4 a5 hI
      have htl : tl ≤ P := by rw [hI.2.2.2.2.2.1]; exact am_cn_le _ _
      have h1 := hI.2.2.2.2.1
      by_cases c : tl = hd
      · subst c
        exact kb_5_measure_55 (kt := fun _ => fin f D qf lv _ _ _ _ _ _ _ hI) (kf := fun z => absurd (nI_le (Nat.le_refl _) (by omega)) z)
      · have hdt : hd < tl := by omega
        obtain ⟨-, p, hp, hqd, -⟩ := hI.2.2.2.2.2.2.1 hd hdt
        have eQ : am_A (ms_St σ o D qf) o 11 (nI hd).toNatClampNeg = nI p := by rw [nI_clamp (by omega), ms_A11, hqd]
        refine kb_5_measure_55 (kt := fun z => absurd z (nI_ge (by omega) (by omega))) (kf := fun _ => ?_)
        refine kb_5_measure_60 (kt := fun z => absurd z (by rw [e0]; exact nI_ge (by omega) (by omega))) (kf := fun _ => ?_)
        refine kb_5_measure_68 (hi0 := vp_in_nI (by omega) (by omega)) (hi1 := by rw [eQ]; exact vp_in_nI (by omega) (by omega)) (k := ?_)
        rw [eQ, nI_clamp (show p < 2 ^ 31 by omega), ms_An (by simp) (by simp), c1 p hp, e1]
        refine inner hd p hp (fun f D qf lv tl x3 x4 a5 hI' => ?_) q q (Nat.le_refl _) (Nat.le_refl _) hq f D qf lv tl _ hI hdt hqd (fun k c1 c2 => absurd c1 (by omega))
        refine kb_5_measure_157 (k := ?_)
        rw [nI_1]
        exact ih (hd + 1) (by omega) f D qf lv tl _ _ _ hI'
  have first : ∀ (j i : Nat), i + j = P → ∀ (D qf : Nat → Int32), (∀ z, z < i → D z = if am_bt 2 (nI (td z)) = true then 0 else -1) → (∀ z, z < am_cn (fun z => am_bt 2 (nI (td z))) i → ∃ x, x < i ∧ qf z = nI x ∧ am_bt 2 (nI (td x)) = true) → (∀ x, x < i → am_bt 2 (nI (td x)) = true → ∃ z, z < am_cn (fun z => am_bt 2 (nI (td z))) i ∧ qf z = nI x) → ∀ (a3 a4 a5 : Option Value), am_T false ya_5_measure d Q 4 [some (.ref (am_oid o)), some (.int (nI (am_cn (fun z => am_bt 2 (nI (td z))) i))), some (.int (nI i)), a3, a4, a5] [] (ms_St σ o D qf) := by
    intro j
    induction j with
    | zero =>
      intro i hi D qf hD q1 q2 a3 a4 a5
      have : i = P := by omega
      subst this
      refine kb_5_measure_4 (kt := fun _ => kb_5_measure_53 (k := ?_)) (kf := fun z => absurd (by rw [e0]; exact nI_le (by omega) (by omega)) z)
      have e : ∀ z, ((if z < i ∧ am_bt 2 (nI (td z)) = true then some 0 else none : Option Nat)).isSome = (decide (z < i) && am_bt 2 (nI (td z))) := fun z => by
        by_cases c : z < i ∧ am_bt 2 (nI (td z)) = true
        · rw [if_pos c]; simp [c.1, c.2]
        · rw [if_neg c]
          by_cases c1 : z < i
          · have : am_bt 2 (nI (td z)) = false := by cases e : am_bt 2 (nI (td z)); rfl; exact absurd ⟨c1, e⟩ c
            simp [this]
          · simp [c1]
      have hI : ms_Inv i q (am_tg td 2 i) fs sn (fun z => if z < i ∧ am_bt 2 (nI (td z)) = true then some 0 else none) D qf (fun _ => 0) 0 (am_cn (fun z => am_bt 2 (nI (td z))) i) := by
        refine ⟨fun z hz => if_neg (fun c => by omega), fun z hz => ?_, fun z e1 hz => ?_, fun z hz => ?_, Nat.zero_le _, am_cn_congr (fun z hz => ?_), fun z hz => ?_, fun x e1 hx => ?_, fun _ _ _ _ => Nat.le_refl _, fun _ _ _ => Nat.zero_le _, fun z _ hz => absurd hz (Nat.not_lt_zero z)⟩
        · dsimp only
          unfold am_tg
          by_cases c : am_bt 2 (nI (td z)) = true
          · rw [if_pos ⟨hz, c⟩]; simp [hz, c]
          · rw [if_neg (fun c2 => c c2.2)]; simp [c]
        · dsimp only at hz
          split at hz
          · injection hz with hz; omega
          · cases hz
        · dsimp only
          rw [hD z hz]
          by_cases c : am_bt 2 (nI (td z)) = true
          · rw [if_pos c, if_pos ⟨hz, c⟩]; rfl
          · rw [if_neg c, if_neg (fun c2 => c c2.2)]; rfl
        · rw [e z]; simp [hz]
        · obtain ⟨x, g1, g2, g3⟩ := q1 z hz
          exact ⟨Nat.zero_le _, x, g1, g2, by dsimp only; rw [if_pos ⟨g1, g3⟩]⟩
        · dsimp only at hx
          by_cases c : x < i ∧ am_bt 2 (nI (td x)) = true
          · exact q2 x c.1 c.2
          · rw [if_neg c] at hx; cases hx
      have := outer i 0 (by omega) _ D qf _ _ a3 a4 a5 hI
      rw [nI_0] at this
      exact this
    | succ j ih =>
      intro i hi D qf hD q1 q2 a3 a4 a5
      have v : vp_in (nI i) 200 := vp_in_nI (by omega) (by omega)
      have c : (nI i).toNatClampNeg = i := nI_clamp (by omega)
      have eT : am_A (ms_St σ o D qf) o 3 (nI i).toNatClampNeg = nI (td i) := by rw [c, ms_An (by simp) (by simp)]; exact (h6 i (by omega)).2.2.1
      have hcl := am_cn_le (fun z => am_bt 2 (nI (td z))) i
      refine kb_5_measure_4 (kt := fun z => absurd z (by rw [e0]; exact nI_ge (by omega) (by omega))) (kf := fun _ => ?_)
      refine kb_5_measure_12 (hi0 := v) (hi1 := v) (kt := fun z => ?_) (kf := fun z => ?_)
      · rw [eT, am_bt_0] at z
        rw [ms_12, ms_A12, c]
        refine kb_5_measure_47 (k := ?_)
        rw [nI_1]
        have e : am_cn (fun z => am_bt 2 (nI (td z))) (i + 1) = am_cn (fun z => am_bt 2 (nI (td z))) i := by show _ + (if am_bt 2 (nI (td i)) = true then 1 else 0) = _; rw [z]; rfl
        have := ih (i + 1) (by omega) (upd D i (-1)) qf (fun x hx => ?_) (fun x hx => ?_) (fun x hx hb => ?_) a3 a4 a5
        · rw [e] at this; exact this
        · by_cases c2 : x = i
          · rw [c2, upd_s, z]; rfl
          · rw [upd_n c2]; exact hD x (by omega)
        · rw [e] at hx
          obtain ⟨y, g1, g2⟩ := q1 x hx
          exact ⟨y, by omega, g2⟩
        · rw [e]
          by_cases c2 : x = i
          · rw [c2, z] at hb; cases hb
          · exact q2 x (by omega) hb
      · rw [eT, am_bt_0] at z
        have z' : am_bt 2 (nI (td i)) = true := by simpa using z
        rw [ms_12, ms_A12, c]
        have e : am_cn (fun z => am_bt 2 (nI (td z))) (i + 1) = am_cn (fun z => am_bt 2 (nI (td z))) i + 1 := by show _ + (if am_bt 2 (nI (td i)) = true then 1 else 0) = _; rw [z']; rfl
        refine kb_5_measure_30 (hi0 := v) (hi1 := vp_in_nI (by omega) (by omega)) (k := ?_)
        rw [ms_12, ms_11, ms_A12, ms_A11, c, nI_1, nI_clamp (show am_cn (fun z => am_bt 2 (nI (td z))) i < 2 ^ 31 by omega)]
        refine kb_5_measure_47 (k := ?_)
        rw [nI_1]
        have := ih (i + 1) (by omega) (upd (upd D i (-1)) i 0) (upd qf (am_cn (fun z => am_bt 2 (nI (td z))) i) (nI i)) (fun x hx => ?_) (fun x hx => ?_) (fun x hx hb => ?_) a3 a4 a5
        · rw [e] at this; exact this
        · by_cases c2 : x = i
          · rw [c2, upd_s, z']; rfl
          · rw [upd_n c2, upd_n c2]; exact hD x (by omega)
        · rw [e] at hx
          by_cases c2 : x = am_cn (fun z => am_bt 2 (nI (td z))) i
          · exact ⟨i, by omega, by rw [c2, upd_s], z'⟩
          · obtain ⟨y, g1, g2, g3⟩ := q1 x (by omega)
            exact ⟨y, by omega, by rw [upd_n c2]; exact g2, g3⟩
        · rw [e]
          by_cases c2 : x = i
          · exact ⟨_, Nat.lt_succ_self _, by rw [upd_s, c2]⟩
          · obtain ⟨w, g1, g2⟩ := q2 x (by omega) hb
            exact ⟨w, by omega, by rw [upd_n (by omega)]; exact g2⟩
  refine am_enter rfl (by simp [Value.category]) (Nat.le_of_ble_eq_true rfl) (kb_5_measure_0 (k := ?_))
  have := first P 0 (by omega) (am_A σ o 12) (am_A σ o 11) (fun z hz => absurd hz (Nat.not_lt_zero z)) (fun z hz => absurd hz (Nat.not_lt_zero z)) (fun z hz => absurd hz (Nat.not_lt_zero z)) none none none
  rw [ms_id, show am_cn (fun z => am_bt 2 (nI (td z))) 0 = 0 from rfl, nI_0] at this
  exact this
end TRC
