/-! Fitter.takeAll, fit from its entry -/
def ft_all (P : Nat) : Nat → Bool := fun i => decide (i < P)
theorem ft_all_En {e : Nat → Int32} {P : Nat} (hP : P < 2 ^ 31) (h : ∀ i, i < P → e i = nI i) : am_En e 0 P P (ft_all P) := by
  refine ⟨Nat.zero_le _, fun j _ c2 => ⟨j, c2, h j c2, by simp [ft_all, c2]⟩, fun i hi => ?_, fun j j' _ c2 _ c4 c5 => ?_⟩
  · have hi' : i < P := by simpa [ft_all] using hi
    exact ⟨hi', i, Nat.zero_le _, hi', h i hi'⟩
  · rw [h j c2, h j' c4] at c5
    exact nI_inj (by omega) (by omega) c5
theorem sp_0_takeAll {d o P q : Nat} {st td fs sn : Nat → Nat} {σ : am_St} (hS : am_Sm σ o P q st td fs sn) : am_C false ya_0_takeAll d [.ref (am_oid 5), .ref (am_oid o)] σ (fun r τ => r = none ∧ ∃ e2 e3 e4 : Nat → Int32, τ = am_sI (am_sI (am_sI (am_sI (am_sA (am_sA (am_sA σ 5 3 e3) 5 2 e2) 5 4 e4) 5 7 0) 5 8 (nI P)) 5 9 0) 5 10 (nI q) ∧ (∀ i, i < P → e3 i = nI i ∧ e2 i = am_A σ 4 10 (st i)) ∧ ∀ k, k < q → e4 k = nI k) := by
  obtain ⟨ho, hP, hq, h4, h5, h6, -, -, -, -⟩ := hS
  have ho5 : o ≠ 5 := fun e => by rw [e] at ho; exact absurd ho (by decide)
  generalize hQ : (fun (r : Option Value) (τ : am_St) => r = none ∧ ∃ e2 e3 e4 : Nat → Int32, τ = am_sI (am_sI (am_sI (am_sI (am_sA (am_sA (am_sA σ 5 3 e3) 5 2 e2) 5 4 e4) 5 7 0) 5 8 (nI P)) 5 9 0) 5 10 (nI q) ∧ (∀ i, i < P → e3 i = nI i ∧ e2 i = am_A σ 4 10 (st i)) ∧ ∀ k, k < q → e4 k = nI k) = Q
  have loop2 : ∀ (e2 e3 : Nat → Int32), (∀ i, i < P → e3 i = nI i ∧ e2 i = am_A σ 4 10 (st i)) → ∀ (j i : Nat), i + j = q → ∀ e4 : Nat → Int32, (∀ k, k < i → e4 k = nI k) → am_T false ya_0_takeAll d Q 45 [some (.ref (am_oid 5)), some (.ref (am_oid o)), some (.int (nI i))] [] (am_sA (am_sA (am_sA σ 5 3 e3) 5 2 e2) 5 4 e4) := by
    intro e2 e3 h23 j
    induction j with
    | zero =>
      intro i hi e4 h
      have : i = q := by omega
      subst this
      refine kb_0_takeAll_45 (kt := fun _ => kb_0_takeAll_66 (hq := ?_)) (kf := fun z => absurd ?_ z)
      · rw [← hQ]
        refine ⟨rfl, e2, e3, e4, ?_, h23, h⟩
        have w0 : am_I (am_sA (am_sA (am_sA σ 5 3 e3) 5 2 e2) 5 4 e4) o 0 = nI P := h4
        have w1 : am_I (am_sA (am_sA (am_sA σ 5 3 e3) 5 2 e2) 5 4 e4) o 1 = nI i := h5
        rw [w0, w1]
      · show am_I σ o 1 ≤ nI i
        rw [h5]; exact nI_le (Nat.le_refl _) (by omega)
    | succ j ih =>
      intro i hi e4 h
      refine kb_0_takeAll_45 (kt := fun z => absurd z ?_) (kf := fun _ => ?_)
      · show ¬ am_I σ o 1 ≤ nI i
        rw [h5]; exact nI_ge (by omega) (by omega)
      · refine kb_0_takeAll_53 (hi0 := vp_in_nI (by omega) (by omega)) (k := ?_)
        rw [nI_1, nI_clamp (by omega), am_sA_sA, am_A_sA, if_pos ⟨rfl, rfl⟩]
        refine ih (i + 1) (by omega) _ (fun k hk => ?_)
        by_cases c : k = i
        · subst c; exact upd_s _ _ _
        · rw [upd_n c]; exact h k (by omega)
  have loop1 : ∀ (j i : Nat), i + j = P → ∀ e2 e3 : Nat → Int32, (∀ k, k < i → e3 k = nI k ∧ e2 k = am_A σ 4 10 (st k)) → am_T false ya_0_takeAll d Q 2 [some (.ref (am_oid 5)), some (.ref (am_oid o)), some (.int (nI i))] [] (am_sA (am_sA σ 5 3 e3) 5 2 e2) := by
    intro j
    induction j with
    | zero =>
      intro i hi e2 e3 h
      have : i = P := by omega
      subst this
      refine kb_0_takeAll_2 (kt := fun _ => kb_0_takeAll_43 (k := ?_)) (kf := fun z => absurd ?_ z)
      · have := loop2 e2 e3 h q 0 (by omega) (am_A σ 5 4) (fun k hk => absurd hk (Nat.not_lt_zero k))
        have e0 : am_A σ 5 4 = am_A (am_sA (am_sA σ 5 3 e3) 5 2 e2) 5 4 := by rw [am_A_sA, if_neg (by simp), am_A_sA, if_neg (by simp)]
        rw [e0, am_sA_id] at this
        exact this
      · show am_I σ o 0 ≤ nI i
        rw [h4]; exact nI_le (Nat.le_refl _) (by omega)
    | succ j ih =>
      intro i hi e2 e3 h
      have v := vp_in_nI (show i < 200 by omega) (by omega)
      obtain ⟨g1, g2, -, -⟩ := h6 i (by omega)
      have es : am_A (am_sA (am_sA σ 5 3 e3) 5 2 e2) o 2 (nI i).toNatClampNeg = nI (st i) := by rw [am_A_sA, if_neg (fun z => ho5 z.2), am_A_sA, if_neg (fun z => ho5 z.2), nI_clamp (by omega)]; exact g1
      refine kb_0_takeAll_2 (kt := fun z => absurd z ?_) (kf := fun _ => ?_)
      · show ¬ am_I σ o 0 ≤ nI i
        rw [h4]; exact nI_ge (by omega) (by omega)
      · refine kb_0_takeAll_10 (hi0 := v) (hi1 := v) (hi2 := by rw [es]; exact vp_in_nI g2 (by omega)) (hi3 := v) (k := ?_)
        rw [es, nI_1, nI_clamp (by omega), nI_clamp (show st i < 2 ^ 31 by omega)]
        have x3 : am_A (am_sA (am_sA σ 5 3 e3) 5 2 e2) 5 3 = e3 := by rw [am_A_sA, if_neg (by simp), am_A_sA, if_pos ⟨rfl, rfl⟩]
        have x2 : am_A (am_sA (am_sA σ 5 3 e3) 5 2 e2) 5 2 = e2 := by rw [am_A_sA, if_pos ⟨rfl, rfl⟩]
        have x10 : am_A (am_sA (am_sA σ 5 3 e3) 5 2 e2) 4 10 = am_A σ 4 10 := by rw [am_A_sA, if_neg (by simp), am_A_sA, if_neg (by simp)]
        rw [x3, x2, x10, am_sA_comm _ 5 2 5 3 _ _ (by simp), am_sA_sA, am_sA_sA]
        refine ih (i + 1) (by omega) _ _ (fun k hk => ?_)
        by_cases c : k = i
        · subst c; exact ⟨upd_s _ _ _, upd_s _ _ _⟩
        · rw [upd_n c, upd_n c]; exact h k (by omega)
  refine am_enter rfl (by simp [Value.category]) (Nat.le_of_ble_eq_true rfl) (kb_0_takeAll_0 (k := ?_))
  have := loop1 P 0 (by omega) (am_A σ 5 2) (am_A σ 5 3) (fun k hk => absurd hk (Nat.not_lt_zero k))
  rw [am_sA_id, am_sA_id] at this
  exact this
/-- the same bits of the points give the same fitting -/
theorem ft_cost_congr {P q : Nat} {fs sn : Nat → Nat} {S g b β β' : Nat → Bool} (hab : ∀ k, k < q → fs k < P ∧ sn k < P) (h : ∀ i, i < P → β i = β' i) : ft_cost P q fs sn S g b β = ft_cost P q fs sn S g b β' := by
  have e1 : am_cn (fun i => S i && β i) P = am_cn (fun i => S i && β' i) P := am_cn_congr (fun i hi => by rw [h i hi])
  have e2 : am_cn (fun i => S i && (g i && β i)) P = am_cn (fun i => S i && (g i && β' i)) P := am_cn_congr (fun i hi => by rw [h i hi])
  have e3 : am_cn (fun i => S i && (b i && β i)) P = am_cn (fun i => S i && (b i && β' i)) P := am_cn_congr (fun i hi => by rw [h i hi])
  have e4 : am_cn (fun k => ft_crs q fs sn S k && (β (fs k) ^^ β (sn k))) q = am_cn (fun k => ft_crs q fs sn S k && (β' (fs k) ^^ β' (sn k))) q := am_cn_congr (fun k hk => by rw [h _ (hab k hk).1, h _ (hab k hk).2])
  unfold ft_cost ft_mix
  rw [e1, e2, e3, e4]
theorem ft_F_congr {P q T : Nat} {fs sn : Nat → Nat} {bit bit' : Nat → Nat → Bool} {al : Nat → Bool} {care : Bool} (hab : ∀ k, k < q → fs k < P ∧ sn k < P) (h : ∀ i t, i < P → bit i t = bit' i t) : ∀ (f : Nat) (S : Nat → Bool) (par : Option Nat) (sd : Bool) (s : ft_Sg), (∀ i, S i = true → i < P) → ft_F P q T fs sn bit al care f S par sd s = ft_F P q T fs sn bit' al care f S par sd s := by
  intro f
  induction f with
  | zero => intro S par sd s _; rfl
  | succ f ih =>
    intro S par sd s hS
    have ec : (fun t => ft_cost P q fs sn S s.1 s.2.1 (fun i => bit i t)) = fun t => ft_cost P q fs sn S s.1 s.2.1 (fun i => bit' i t) := funext (fun t => ft_cost_congr hab (fun i hi => h i t hi))
    have es : ∀ p, (fun i => S i && bit i p) = fun i => S i && bit' i p := fun p => funext (fun i => by
      cases hs : S i
      · rfl
      · simp [h i p (hS i hs)])
    have es' : ∀ p, (fun i => S i && !bit i p) = fun i => S i && !bit' i p := fun p => funext (fun i => by
      cases hs : S i
      · rfl
      · simp [h i p (hS i hs)])
    unfold ft_F
    rw [ec]
    split
    · split
      · rfl
      · rename_i p hp
        rw [es p.1, es' p.1, ih _ _ _ _ (fun i hi => hS i (by simp at hi; exact hi.1))]
        split
        · rfl
        · exact ih _ _ _ _ (fun i hi => hS i (by simp at hi; exact hi.1))
    · rfl
/-- all but the fitter, the tree, the queue of the samples -/
def ft_Fs (o t : Nat) (σ τ : am_St) : Prop := (∀ o' k, o' ≠ 5 → o' ≠ t → am_I τ o' k = am_I σ o' k) ∧ (∀ o' k, o' ≠ 5 → o' ≠ t → ¬ (o' = o ∧ k = 11) → am_A τ o' k = am_A σ o' k) ∧ τ.2.2 = σ.2.2
theorem ft_Fs.tr {o t : Nat} {σ τ υ : am_St} (h : ft_Fs o t σ τ) (h' : ft_Fs o t τ υ) : ft_Fs o t σ υ := ⟨fun o' k h1 h2 => (h'.1 o' k h1 h2).trans (h.1 o' k h1 h2), fun o' k h1 h2 h3 => (h'.2.1 o' k h1 h2 h3).trans (h.2.1 o' k h1 h2 h3), h'.2.2.trans h.2.2⟩
theorem ft_Fr.fs {o t : Nat} {σ τ : am_St} (h : ft_Fr o t σ τ) : ft_Fs o t σ τ := ⟨h.1, h.2.1, h.2.2.1⟩
theorem sp_0_fit {d o t P q T : Nat} {tm : Int32} {care : Bool} {st td fs sn : Nat → Nat} {g b : Nat → Bool} {σ : am_St} (hS : am_Sm σ o P q st td fs sn) (hL : ft_Lb σ P g b) (hz : ∀ i, P ≤ i → g i = false ∧ b i = false) (hcg : am_Cl q fs sn g) (hcb : am_Cl q sn fs b) (ht : am_k false t = 8) (hT : am_I σ 4 4 = nI T) (hT2 : T ≤ 16) {Q : Option Value → am_St → Prop}
    (k0 : ft_F P q T fs sn (fun i t => bt (am_A σ 4 10 (st i)) t) (fun t => bt tm t) care 17 (ft_all P) none true (g, b, 0, fun _ _ => 0) = none → ∀ τ, ft_Fs o t σ τ → Q (some (.int 0)) τ)
    (k1 : ∀ s : ft_Sg, ft_F P q T fs sn (fun i t => bt (am_A σ 4 10 (st i)) t) (fun t => bt tm t) care 17 (ft_all P) none true (g, b, 0, fun _ _ => 0) = some s → ∀ τ, ft_Fs o t σ τ → am_Tr τ t s.2.2.1 s.2.2.2 → Q (some (.int 1)) τ) :
    am_C false ya_0_fit (d + 3) [.ref (am_oid 5), .ref (am_oid o), .ref (am_oid t), .int (am_bI care), .int tm] σ Q := by
  have ho := hS.1
  have hP := hS.2.1
  have hq := hS.2.2.1
  have hab := hS.2.2.2.2.2.2.1.2.2.2
  have ho5 : o ≠ 5 := fun e => by rw [e] at ho; exact absurd ho (by decide)
  have ht5 : t ≠ 5 := fun e => by rw [e] at ht; exact absurd ht (by decide)
  have hot : o ≠ t := fun e => by rw [e, ht] at ho; exact absurd ho (by decide)
  have ht4 : (4 : Nat) ≠ t := fun e => by rw [← e] at ht; exact absurd ht (by decide)
  refine am_enter rfl (by simp [Value.category]) (Nat.le_of_ble_eq_true rfl) ?_
  refine kb_0_fit_0 (hC := sp_0_takeAll hS) (k := fun r τ hr => ?_)
  obtain ⟨rfl, e2, e3, e4, hτ, h23, h4⟩ := hr
  have tI : ∀ o' k, o' ≠ 5 → am_I τ o' k = am_I σ o' k := fun o' k z => by rw [hτ]; simp [am_I_sI, am_I_sA, z]
  have tA : ∀ o' k, o' ≠ 5 → am_A τ o' k = am_A σ o' k := fun o' k z => by rw [hτ]; simp [am_A_sI, am_A_sA, z]
  have t1 : am_A τ 5 1 = am_A σ 5 1 := by rw [hτ]; simp [am_A_sI, am_A_sA]
  have t2 : am_A τ 5 2 = e2 := by rw [hτ]; simp [am_A_sI, am_A_sA]
  have t3 : am_A τ 5 3 = e3 := by rw [hτ]; simp [am_A_sI, am_A_sA]
  have t4 : am_A τ 5 4 = e4 := by rw [hτ]; simp [am_A_sI, am_A_sA]
  have i7 : am_I τ 5 7 = 0 := by rw [hτ]; simp [am_I_sI]
  have i8 : am_I τ 5 8 = nI P := by rw [hτ]; simp [am_I_sI]
  have i9 : am_I τ 5 9 = 0 := by rw [hτ]; simp [am_I_sI]
  have i10 : am_I τ 5 10 = nI q := by rw [hτ]; simp [am_I_sI]
  have tR : τ.2.2 = σ.2.2 := by rw [hτ]; rfl
  have p1 := sp_0_push (d := d + 2) (h := 0) (x1 := -1) (sd := true) (σ := am_sI (am_sI τ t 0 0) 5 6 0) (by simp [am_I_sI]; exact nI_0.symm) (by decide)
  refine kb_0_fit_5 (hC := p1) (k := fun r τ2 hr => ?_)
  obtain ⟨rfl, f5, hτ2, hIt, -⟩ := hr
  simp only [am_I_sI] at hIt
  simp only [Nat.reduceEqDiff, false_and, and_false, if_false, ht5.symm] at hIt
  rw [i7, i8, i9, i10] at hIt
  have uI : ∀ o' k, o' ≠ 5 → o' ≠ t → am_I τ2 o' k = am_I σ o' k := fun o' k z1 z2 => by rw [hτ2]; simp [am_I_sI, am_I_sA, z1, z2]; exact tI o' k z1
  have uA : ∀ o' k, o' ≠ 5 → am_A τ2 o' k = am_A σ o' k := fun o' k z => by rw [hτ2]; simp [am_A_sI, am_A_sA, z]; exact tA o' k z
  have u5 : am_A τ2 5 5 = f5 := by rw [hτ2]; simp [am_A_sI, am_A_sA]
  have u1 : am_A τ2 5 1 = am_A σ 5 1 := by rw [hτ2]; simp [am_A_sI, am_A_sA]; exact t1
  have u2 : am_A τ2 5 2 = e2 := by rw [hτ2]; simp [am_A_sI, am_A_sA]; exact t2
  have u3 : am_A τ2 5 3 = e3 := by rw [hτ2]; simp [am_A_sI, am_A_sA]; exact t3
  have u4 : am_A τ2 5 4 = e4 := by rw [hτ2]; simp [am_A_sI, am_A_sA]; exact t4
  have fs2 : ft_Fs o t σ τ2 := ⟨uI, fun o' k z1 _ _ => uA o' k z1, by rw [hτ2]; exact tR⟩
  have hS2 : am_Sm τ2 o P q st td fs sn := hS.same (fun k _ => uI o k ho5 hot) (fun k _ => uA o k ho5)
  have hcan : ∀ s0 : ft_Sg, ft_F P q T fs sn (fun i t => bt (e2 i) t) (fun t => bt tm t) care 17 (ft_all P) none true s0 = ft_F P q T fs sn (fun i t => bt (am_A σ 4 10 (st i)) t) (fun t => bt tm t) care 17 (ft_all P) none true s0 := fun s0 => ft_F_congr hab (fun i t hi => by rw [(h23 i hi).2]) 17 _ _ _ _ (fun i hi => by simpa [ft_all] using hi)
  have hcrs : ft_crs q fs sn (ft_all P) = ft_all q := by
    funext k
    unfold ft_crs ft_all
    by_cases c : k < q
    · have := hab k c
      simp [c, this.1, this.2]
    · simp [c]
  refine kb_0_fit_21 (k := ?_)
  have hcn := am_cn_le (ft_all P) P
  refine ft_run (bp := e2) hT2 17 (ft_all P) 0 P 0 q 0 0 none true g b (fun _ _ => 0) τ2 _ ⟨hS2, fun i hi => by rw [u1]; exact hL i hi, hz, hcg, hcb, u2, ⟨ht, by decide, ?_, fun i hi => absurd hi (Nat.not_lt_zero i)⟩, ?_, ?_⟩ ?_ (by rw [u3]; exact ft_all_En (by omega) (fun i hi => (h23 i hi).1)) hP (by rw [u4, hcrs]; exact ft_all_En (by omega) h4) hq (fun p hp => by cases hp) (by omega) (by omega) (by omega) (fun hnone τ3 fr3 => k0 (by rw [← hcan]; exact hnone) τ3 (fs2.tr fr3.fs)) (fun s hs τ3 b6 hI3 fr3 _ _ _ => ?_)
  · rw [hτ2]; simp [am_I_sI, am_I_sA, ht5]; exact nI_0.symm
  · rw [uI 4 4 (by decide) ht4]; exact hT
  · rw [hτ2]; simp [am_I_sI]
  · rw [u5]
    have z0 : (0 : Int32) = nI 0 := nI_0.symm
    rw [← z0]
    exact hIt
  · have hop := hI3.2.2.2.2.2.2.2.2
    refine kb_0_fit_24 (kt := fun _ => kb_0_fit_120 (k1 s (by rw [← hcan]; exact hs) τ3 (fs2.tr fr3.fs) hI3.2.2.2.2.2.2.1)) (kf := fun z => absurd ?_ z)
    rw [hop, nI_0]; exact Int32.le_refl 0
