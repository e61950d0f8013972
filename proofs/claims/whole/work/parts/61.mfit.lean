/-! THE REFERENCE: its world, isSo, isNone, becomes, marks, costOf, bestTest -/
def mo_Wo (σ : am_St) (N K T : Nat) (tb : Nat → Int32) (fl : Nat → Nat → Bool) (nx : Nat → Nat → Option Nat) : Prop :=
  N ≤ 600 ∧ K ≤ 8 ∧ T ≤ 16 ∧ am_I σ 16 17 = nI N ∧ am_A σ 16 3 3 = nI K ∧ am_A σ 16 3 4 = nI T ∧ (∀ s, s < N → am_A σ 16 18 s = tb s ∧ am_A σ 16 19 s = am_bI (fl s 0) ∧ am_A σ 16 20 s = am_bI (fl s 1) ∧ am_A σ 16 21 s = am_bI (fl s 2) ∧ am_A σ 16 22 s = am_bI (fl s 3)) ∧ ∀ s, s < N → ∀ k, k < K → am_A σ 16 23 (8 * s + k) = am_oI (-1) (nx s k) ∧ ∀ t, nx s k = some t → t < N
/-- all but some int fields, some arrays of the reference -/
def mo_Fr (is as : List Nat) (σ τ : am_St) : Prop := (∀ k, is.contains k = false → am_I τ 16 k = am_I σ 16 k) ∧ (∀ k, as.contains k = false → am_A τ 16 k = am_A σ 16 k) ∧ am_J τ 16 = am_J σ 16
theorem mo_Fr.rf {is as : List Nat} {σ : am_St} : mo_Fr is as σ σ := ⟨fun _ _ => rfl, fun _ _ => rfl, rfl⟩
theorem mo_Fr.tr {is as : List Nat} {σ τ υ : am_St} (h : mo_Fr is as σ τ) (h' : mo_Fr is as τ υ) : mo_Fr is as σ υ := ⟨fun k hk => (h'.1 k hk).trans (h.1 k hk), fun k hk => (h'.2.1 k hk).trans (h.2.1 k hk), h'.2.2.trans h.2.2⟩
theorem mo_Fr.sA {is as : List Nat} {σ τ : am_St} (h : mo_Fr is as σ τ) {k : Nat} (hk : as.contains k = true) (f : Nat → Int32) : mo_Fr is as σ (am_sA τ 16 k f) := ⟨fun j hj => h.1 j hj, fun j hj => by rw [am_A_sA, if_neg (fun z => by rw [z.1, hk] at hj; cases hj)]; exact h.2.1 j hj, h.2.2⟩
theorem mo_Fr.sI {is as : List Nat} {σ τ : am_St} (h : mo_Fr is as σ τ) {k : Nat} (hk : is.contains k = true) (x : Int32) : mo_Fr is as σ (am_sI τ 16 k x) := ⟨fun j hj => by rw [am_I_sI, if_neg (fun z => by rw [z.1, hk] at hj; cases hj)]; exact h.1 j hj, fun j hj => h.2.1 j hj, h.2.2⟩
theorem mo_Wo.same {is as : List Nat} {σ τ : am_St} {N K T : Nat} {tb : Nat → Int32} {fl : Nat → Nat → Bool} {nx : Nat → Nat → Option Nat} (h : mo_Wo σ N K T tb fl nx) (hf : mo_Fr is as σ τ) (hi : is.contains 17 = false) (ha : (∀ k, k = 3 ∨ k = 18 ∨ k = 19 ∨ k = 20 ∨ k = 21 ∨ k = 22 ∨ k = 23 → as.contains k = false)) : mo_Wo τ N K T tb fl nx := by
  obtain ⟨h1, h2, h3, h4, h5, h6, h7, h8⟩ := h
  have e := fun k hk => hf.2.1 k (ha k hk)
  refine ⟨h1, h2, h3, by rw [hf.1 17 hi]; exact h4, by rw [e 3 (by simp)]; exact h5, by rw [e 3 (by simp)]; exact h6, fun s hs => ?_, fun s hs k hk => by rw [e 23 (by simp)]; exact h8 s hs k hk⟩
  rw [e 18 (by simp), e 19 (by simp), e 20 (by simp), e 21 (by simp), e 22 (by simp)]
  exact h7 s hs
theorem ft_no_t {P : Nat} {S p : Nat → Bool} (h : ∀ i, i < P → S i = true → p i = false) : ft_no P S p = true := by
  unfold ft_no
  rw [am_cn_zero' (fun i hi => ?_)]
  · rfl
  · cases hs : S i
    · rfl
    · simp [h i hi hs]
theorem ft_no_f {P i : Nat} {S p : Nat → Bool} (hi : i < P) (hs : S i = true) (hp : p i = true) : ft_no P S p = false := by
  unfold ft_no
  cases h : (am_cn (fun i => S i && p i) P == 0)
  · rfl
  · have := am_cn_zero (eq_of_beq h) i hi
    simp [hs, hp] at this
theorem nI_cn (f : Nat → Bool) (n : Nat) : nI (am_cn f n) + am_bI (f n) = nI (am_cn f (n + 1)) := by
  show _ = nI (am_cn f n + (if f n = true then 1 else 0))
  cases h : f n
  · show nI _ + 0 = nI (_ + 0)
    rw [Int32.add_zero]
    rfl
  · show nI _ + 1 = nI (_ + 1)
    exact nI_1 _
theorem sp_11_isSo {d P q i t : Nat} {st td fs sn : Nat → Nat} {σ : am_St} (hS : mo_Sm σ P q st td fs sn) (hi : i < P) (ht : t < 32) : am_C true ya_11_isSo d [.ref (am_oid 16), .int (nI i), .int (nI t)] σ (fun r τ => τ = σ ∧ r = some (.int (am_bI (bt (am_A σ 16 18 (st i)) t)))) := by
  obtain ⟨hP, hq, k0, k1, hpt, -⟩ := hS
  obtain ⟨p1, p2, -, -⟩ := hpt i hi
  have x1 : (8 : Int32) + nI i = nI (8 + i) := nI_add 8 i
  have y1 : am_A σ 16 25 ((8 : Int32) + nI i).toNatClampNeg = nI (st i) := by rw [x1, nI_clamp (by omega)]; exact p1
  refine am_enter rfl (by simp [Value.category]) (Nat.le_of_ble_eq_true rfl) ?_
  refine kb_11_isSo_0 (hi0 := by rw [x1]; exact vp_in_nI (by omega) (by omega)) (hi1 := by rw [y1]; exact vp_in_nI (by omega) (by omega)) (kt := fun z => ?_) (kf := fun z => ?_)
  · rw [y1, nI_clamp (by omega), am_sh1_1 _ ht] at z
    have e : bt (am_A σ 16 18 (st i)) t = false := by simpa using z
    exact kb_11_isSo_26 (k := kb_11_isSo_27 (hb0 := rfl) (hq := ⟨rfl, by rw [e]; rfl⟩))
  · rw [y1, nI_clamp (by omega), am_sh1_1 _ ht] at z
    exact kb_11_isSo_22 (k := kb_11_isSo_27 (hb0 := rfl) (hq := ⟨rfl, by rw [z]; rfl⟩))
theorem sp_11_isNone {d P u v : Nat} {w : Int32} {S p : Nat → Bool} {σ : am_St} (hP : P ≤ 200) (hv : v ≤ 200) (hE : am_En (am_A σ 16 34) u v P S) (hp : ∀ i, i < P → (am_A σ 16 31 i &&& w = 0) = (p i = false)) : am_C true ya_11_isNone d [.ref (am_oid 16), .int (nI u), .int (nI v), .int w] σ (fun r τ => τ = σ ∧ r = some (.int (am_bI (ft_no P S p)))) := by
  have huv := hE.1
  have loop : ∀ (j i : Nat), i + j = v - u → (∀ y, u ≤ y → y < u + i → ∀ z, z < P → am_A σ 16 34 y = nI z → p z = false) → am_T true ya_11_isNone d (fun r τ => τ = σ ∧ r = some (.int (am_bI (ft_no P S p)))) 3 [some (.ref (am_oid 16)), some (.int (nI u)), some (.int (nI v)), some (.int w), some (.int (nI (u + i)))] [] σ := by
    intro j
    induction j with
    | zero =>
      intro i hi h
      refine kb_11_isNone_3 (kt := fun _ => kb_11_isNone_34 ⟨rfl, ?_⟩) (kf := fun z => absurd ?_ z)
      · rw [ft_no_t (fun z hz hs => ?_)]
        · rfl
        · obtain ⟨-, y, y1, y2, y3⟩ := hE.2.2.1 z hs
          exact h y y1 (by omega) z hz y3
      · exact nI_le (by omega) (by omega)
    | succ j ih =>
      intro i hi h
      obtain ⟨z, z1, z2, z3⟩ := hE.2.1 (u + i) (by omega) (by omega)
      have c0 : am_A σ 16 34 (nI (u + i)).toNatClampNeg = nI z := by rw [nI_clamp (by omega)]; exact z2
      refine kb_11_isNone_3 (kt := fun y => absurd y (nI_ge (by omega) (by omega))) (kf := fun _ => ?_)
      refine kb_11_isNone_9 (hi0 := vp_in_nI (by omega) (by omega)) (hi1 := by rw [c0]; exact vp_in_nI (by omega) (by omega)) (kt := fun y => ?_) (kf := fun y => ?_)
      · rw [c0, nI_clamp (by omega), hp z z1] at y
        refine kb_11_isNone_28 (k := ?_)
        rw [nI_1]
        refine ih (i + 1) (by omega) (fun y' h1 h2 z' h3 h4 => ?_)
        by_cases e : y' = u + i
        · rw [e, z2] at h4
          have := nI_inj (by omega) (by omega) h4
          rw [← this]; exact y
        · exact h y' h1 (by omega) z' h3 h4
      · rw [c0, nI_clamp (by omega), hp z z1] at y
        have hpz : p z = true := by simpa using y
        refine kb_11_isNone_26 ⟨rfl, ?_⟩
        rw [ft_no_f z1 z3 hpz]; rfl
  refine am_enter rfl (by simp [Value.category]) (Nat.le_of_ble_eq_true rfl) (kb_11_isNone_0 (k := ?_))
  exact loop (v - u) 0 (by omega) (fun y h1 h2 => by omega)
theorem am_clo_id {q : Nat} {a b : Nat → Nat} {g : Nat → Bool} (h : am_Cl q a b g) : am_clo q a b g = g := (am_Ls.eq (q := q) (a := a) (b := b) (g0 := g) (g := g) ⟨fun _ z => z, h, fun _ z _ => z⟩).symm
/-- those of a range become good, and what follows -/
theorem sp_11_becomes1 {d P q u v : Nat} {st td fs sn : Nat → Nat} {S g b : Nat → Bool} {σ : am_St} (hS : mo_Sm σ P q st td fs sn) (hv : v ≤ 200) (hE : am_En (am_A σ 16 34) u v P S) (hL : mo_Lb (am_A σ 16 31) P g b) (hz : ∀ i, P ≤ i → g i = false ∧ b i = false) (hcb : am_Cl q sn fs b) : am_C true ya_11_becomes_ (d + 1) [.ref (am_oid 16), .int (nI u), .int (nI v), .int 1] σ (fun r τ => r = none ∧ ∃ L : Nat → Int32, τ = am_sA σ 16 31 L ∧ mo_Lb L P (am_clo q fs sn (ft_or g S)) b ∧ ∀ i, P ≤ i → am_clo q fs sn (ft_or g S) i = false ∧ b i = false) := by
  have hP := hS.1
  have huv := hE.1
  have eK : ∀ (L : Nat → Int32) (k : Nat), k ≠ 31 → am_A (am_sA σ 16 31 L) 16 k = am_A σ 16 k := fun L k h => by rw [am_A_sA, if_neg (fun z => h z.1)]
  have eL : ∀ L : Nat → Int32, am_A (am_sA σ 16 31 L) 16 31 = L := fun L => by rw [am_A_sA, if_pos ⟨rfl, rfl⟩]
  have loop : ∀ (j i : Nat), i + j = v - u → ∀ (L : Nat → Int32) (g' : Nat → Bool), mo_Lb L P g' b → (∀ x, g' x = true ↔ g x = true ∨ ∃ y, u ≤ y ∧ y < u + i ∧ x < P ∧ am_A σ 16 34 y = nI x) → am_T true ya_11_becomes_ (d + 1) (fun r τ => r = none ∧ ∃ L : Nat → Int32, τ = am_sA σ 16 31 L ∧ mo_Lb L P (am_clo q fs sn (ft_or g S)) b ∧ ∀ i, P ≤ i → am_clo q fs sn (ft_or g S) i = false ∧ b i = false) 3 [some (.ref (am_oid 16)), some (.int (nI u)), some (.int (nI v)), some (.int 1), some (.int (nI (u + i)))] [] (am_sA σ 16 31 L) := by
    intro j
    induction j with
    | zero =>
      intro i hi L g' hL' hg'
      have e : g' = ft_or g S := by
        funext x
        refine Bool.eq_iff_iff.mpr ((hg' x).trans ?_)
        unfold ft_or
        rw [Bool.or_eq_true_iff]
        refine or_congr Iff.rfl ⟨fun h => ?_, fun h => ?_⟩
        · obtain ⟨y, y1, y2, y3, y4⟩ := h
          obtain ⟨z, z1, z2, z3⟩ := hE.2.1 y y1 (by omega)
          rw [z2] at y4
          have := nI_inj (by omega) (by omega) y4
          rw [← this]; exact z3
        · obtain ⟨h1, y, y1, y2, y3⟩ := hE.2.2.1 x h
          exact ⟨y, y1, by omega, h1, y3⟩
      subst e
      refine kb_11_becomes__3 (kt := fun _ => ?_) (kf := fun z => absurd (nI_le (by omega) (by omega)) z)
      refine kb_11_becomes__31 (hC := sp_11_follows (g0 := ft_or g S) (b0 := b) (hS.same (eK L 25 (by decide))) (by rw [eL]; exact hL') (fun x hx => ⟨?_, (hz x hx).2⟩)) (k := fun r τ hr => ?_)
      · have : S x = false := by
          cases hs : S x
          · rfl
          · have := (hE.2.2.1 x hs).1; omega
        simp [ft_or, this, (hz x hx).1]
      · obtain ⟨rfl, L', rfl, h1, h2⟩ := hr
        rw [am_clo_id hcb] at h1 h2
        rw [am_sA_sA]
        exact kb_11_becomes__35 ⟨rfl, L', rfl, h1, h2⟩
    | succ j ih =>
      intro i hi L g' hL' hg'
      obtain ⟨z, z1, z2, z3⟩ := hE.2.1 (u + i) (by omega) (by omega)
      have c0 : am_A (am_sA σ 16 31 L) 16 34 (nI (u + i)).toNatClampNeg = nI z := by rw [eK L 34 (by decide), nI_clamp (by omega)]; exact z2
      have vz : vp_in (nI z) 200 := vp_in_nI (by omega) (by omega)
      refine kb_11_becomes__3 (kt := fun y => absurd y (nI_ge (by omega) (by omega))) (kf := fun _ => ?_)
      refine kb_11_becomes__9 (hi0 := vp_in_nI (by omega) (by omega)) (hi1 := by rw [c0]; exact vz) (hi2 := by rw [c0]; exact vz) (k := ?_)
      rw [c0, nI_clamp (show z < 2 ^ 31 by omega), eL, am_sA_sA, nI_1]
      refine ih (i + 1) (by omega) _ (fun x => x == z || g' x) (mo_Lb_1 hL' z1) (fun x => ?_)
      rw [Bool.or_eq_true_iff, beq_iff_eq, hg' x]
      constructor
      · rintro (h | h | ⟨y, y1, y2, y3, y4⟩)
        · exact Or.inr ⟨u + i, by omega, by omega, by omega, by rw [h]; exact z2⟩
        · exact Or.inl h
        · exact Or.inr ⟨y, y1, by omega, y3, y4⟩
      · rintro (h | ⟨y, y1, y2, y3, y4⟩)
        · exact Or.inr (Or.inl h)
        · by_cases e : y = u + i
          · rw [e, z2] at y4
            exact Or.inl (nI_inj (by omega) (by omega) y4).symm
          · exact Or.inr (Or.inr ⟨y, y1, by omega, y3, y4⟩)
  refine am_enter rfl (by simp [Value.category]) (Nat.le_of_ble_eq_true rfl) (kb_11_becomes__0 (k := ?_))
  have := loop (v - u) 0 (by omega) (am_A σ 16 31) g hL (fun x => ⟨Or.inl, fun h => h.elim id (fun ⟨y, y1, y2, _⟩ => by omega)⟩)
  rw [am_sA_id] at this
  exact this
theorem sp_11_becomes2 {d P q u v : Nat} {st td fs sn : Nat → Nat} {S g b : Nat → Bool} {σ : am_St} (hS : mo_Sm σ P q st td fs sn) (hv : v ≤ 200) (hE : am_En (am_A σ 16 34) u v P S) (hL : mo_Lb (am_A σ 16 31) P g b) (hz : ∀ i, P ≤ i → g i = false ∧ b i = false) (hcg : am_Cl q fs sn g) : am_C true ya_11_becomes_ (d + 1) [.ref (am_oid 16), .int (nI u), .int (nI v), .int 2] σ (fun r τ => r = none ∧ ∃ L : Nat → Int32, τ = am_sA σ 16 31 L ∧ mo_Lb L P g (am_clo q sn fs (ft_or b S)) ∧ ∀ i, P ≤ i → g i = false ∧ am_clo q sn fs (ft_or b S) i = false) := by
  have hP := hS.1
  have huv := hE.1
  have eK : ∀ (L : Nat → Int32) (k : Nat), k ≠ 31 → am_A (am_sA σ 16 31 L) 16 k = am_A σ 16 k := fun L k h => by rw [am_A_sA, if_neg (fun z => h z.1)]
  have eL : ∀ L : Nat → Int32, am_A (am_sA σ 16 31 L) 16 31 = L := fun L => by rw [am_A_sA, if_pos ⟨rfl, rfl⟩]
  have loop : ∀ (j i : Nat), i + j = v - u → ∀ (L : Nat → Int32) (b' : Nat → Bool), mo_Lb L P g b' → (∀ x, b' x = true ↔ b x = true ∨ ∃ y, u ≤ y ∧ y < u + i ∧ x < P ∧ am_A σ 16 34 y = nI x) → am_T true ya_11_becomes_ (d + 1) (fun r τ => r = none ∧ ∃ L : Nat → Int32, τ = am_sA σ 16 31 L ∧ mo_Lb L P g (am_clo q sn fs (ft_or b S)) ∧ ∀ i, P ≤ i → g i = false ∧ am_clo q sn fs (ft_or b S) i = false) 3 [some (.ref (am_oid 16)), some (.int (nI u)), some (.int (nI v)), some (.int 2), some (.int (nI (u + i)))] [] (am_sA σ 16 31 L) := by
    intro j
    induction j with
    | zero =>
      intro i hi L b' hL' hg'
      have e : b' = ft_or b S := by
        funext x
        refine Bool.eq_iff_iff.mpr ((hg' x).trans ?_)
        unfold ft_or
        rw [Bool.or_eq_true_iff]
        refine or_congr Iff.rfl ⟨fun h => ?_, fun h => ?_⟩
        · obtain ⟨y, y1, y2, y3, y4⟩ := h
          obtain ⟨z, z1, z2, z3⟩ := hE.2.1 y y1 (by omega)
          rw [z2] at y4
          have := nI_inj (by omega) (by omega) y4
          rw [← this]; exact z3
        · obtain ⟨h1, y, y1, y2, y3⟩ := hE.2.2.1 x h
          exact ⟨y, y1, by omega, h1, y3⟩
      subst e
      refine kb_11_becomes__3 (kt := fun _ => ?_) (kf := fun z => absurd (nI_le (by omega) (by omega)) z)
      refine kb_11_becomes__31 (hC := sp_11_follows (g0 := g) (b0 := ft_or b S) (hS.same (eK L 25 (by decide))) (by rw [eL]; exact hL') (fun x hx => ⟨(hz x hx).1, ?_⟩)) (k := fun r τ hr => ?_)
      · have : S x = false := by
          cases hs : S x
          · rfl
          · have := (hE.2.2.1 x hs).1; omega
        simp [ft_or, this, (hz x hx).2]
      · obtain ⟨rfl, L', rfl, h1, h2⟩ := hr
        rw [am_clo_id hcg] at h1 h2
        rw [am_sA_sA]
        exact kb_11_becomes__35 ⟨rfl, L', rfl, h1, h2⟩
    | succ j ih =>
      intro i hi L b' hL' hg'
      obtain ⟨z, z1, z2, z3⟩ := hE.2.1 (u + i) (by omega) (by omega)
      have c0 : am_A (am_sA σ 16 31 L) 16 34 (nI (u + i)).toNatClampNeg = nI z := by rw [eK L 34 (by decide), nI_clamp (by omega)]; exact z2
      have vz : vp_in (nI z) 200 := vp_in_nI (by omega) (by omega)
      refine kb_11_becomes__3 (kt := fun y => absurd y (nI_ge (by omega) (by omega))) (kf := fun _ => ?_)
      refine kb_11_becomes__9 (hi0 := vp_in_nI (by omega) (by omega)) (hi1 := by rw [c0]; exact vz) (hi2 := by rw [c0]; exact vz) (k := ?_)
      rw [c0, nI_clamp (show z < 2 ^ 31 by omega), eL, am_sA_sA, nI_1]
      refine ih (i + 1) (by omega) _ (fun x => x == z || b' x) (mo_Lb_2 hL' z1) (fun x => ?_)
      rw [Bool.or_eq_true_iff, beq_iff_eq, hg' x]
      constructor
      · rintro (h | h | ⟨y, y1, y2, y3, y4⟩)
        · exact Or.inr ⟨u + i, by omega, by omega, by omega, by rw [h]; exact z2⟩
        · exact Or.inl h
        · exact Or.inr ⟨y, y1, by omega, y3, y4⟩
      · rintro (h | ⟨y, y1, y2, y3, y4⟩)
        · exact Or.inr (Or.inl h)
        · by_cases e : y = u + i
          · rw [e, z2] at y4
            exact Or.inl (nI_inj (by omega) (by omega) y4).symm
          · exact Or.inr (Or.inr ⟨y, y1, by omega, y3, y4⟩)
  refine am_enter rfl (by simp [Value.category]) (Nat.le_of_ble_eq_true rfl) (kb_11_becomes__0 (k := ?_))
  have := loop (v - u) 0 (by omega) (am_A σ 16 31) b hL (fun x => ⟨Or.inl, fun h => h.elim id (fun ⟨y, y1, y2, _⟩ => by omega)⟩)
  rw [am_sA_id] at this
  exact this
def mo_Mk (f : Nat → Int32) (u P : Nat) (S : Nat → Bool) : Prop := ∀ i, i < P → f i = if S i = true then nI (u + 1) else 0
theorem sp_11_marks {d P q u v : Nat} {st td fs sn : Nat → Nat} {S : Nat → Bool} {σ : am_St} (hS : mo_Sm σ P q st td fs sn) (hv : v ≤ 200) (hE : am_En (am_A σ 16 34) u v P S) : am_C true ya_11_marks d [.ref (am_oid 16), .int (nI u), .int (nI v)] σ (fun r τ => r = none ∧ ∃ f : Nat → Int32, τ = am_sA σ 16 35 f ∧ mo_Mk f u P S) := by
  obtain ⟨hP, hq, k0, k1, -, -⟩ := hS
  have huv := hE.1
  have eK : ∀ (L : Nat → Int32) (k : Nat), k ≠ 35 → am_A (am_sA σ 16 35 L) 16 k = am_A σ 16 k := fun L k h => by rw [am_A_sA, if_neg (fun z => h z.1)]
  have eL : ∀ L : Nat → Int32, am_A (am_sA σ 16 35 L) 16 35 = L := fun L => by rw [am_A_sA, if_pos ⟨rfl, rfl⟩]
  have loop2 : ∀ (j i : Nat), i + j = v - u → ∀ (f : Nat → Int32), (∀ x, x < P → f x = 0 ∨ f x = nI (u + 1)) → (∀ x, x < P → (f x = nI (u + 1) ↔ ∃ y, u ≤ y ∧ y < u + i ∧ am_A σ 16 34 y = nI x)) → am_T true ya_11_marks d (fun r τ => r = none ∧ ∃ f : Nat → Int32, τ = am_sA σ 16 35 f ∧ mo_Mk f u P S) 27 [some (.ref (am_oid 16)), some (.int (nI u)), some (.int (nI v)), some (.int (nI (u + i)))] [] (am_sA σ 16 35 f) := by
    intro j
    induction j with
    | zero =>
      intro i hi f h1 h2
      refine kb_11_marks_27 (kt := fun _ => kb_11_marks_52 ⟨rfl, f, rfl, fun x hx => ?_⟩) (kf := fun z => absurd (nI_le (by omega) (by omega)) z)
      cases hs : S x
      · rcases h1 x hx with c | c
        · rw [c]; rfl
        · obtain ⟨y, y1, y2, y3⟩ := (h2 x hx).mp c
          obtain ⟨z, z1, z2, z3⟩ := hE.2.1 y y1 (by omega)
          rw [z2] at y3
          rw [nI_inj (by omega) (by omega) y3, hs] at z3
          cases z3
      · obtain ⟨-, y, y1, y2, y3⟩ := hE.2.2.1 x hs
        rw [(h2 x hx).mpr ⟨y, y1, by omega, y3⟩]; rfl
    | succ j ih =>
      intro i hi f h1 h2
      obtain ⟨z, z1, z2, z3⟩ := hE.2.1 (u + i) (by omega) (by omega)
      have c0 : am_A (am_sA σ 16 35 f) 16 34 (nI (u + i)).toNatClampNeg = nI z := by rw [eK f 34 (by decide), nI_clamp (by omega)]; exact z2
      refine kb_11_marks_27 (kt := fun y => absurd y (nI_ge (by omega) (by omega))) (kf := fun _ => ?_)
      refine kb_11_marks_32 (hi0 := vp_in_nI (by omega) (by omega)) (hi1 := by rw [c0]; exact vp_in_nI (by omega) (by omega)) (k := ?_)
      rw [c0, nI_clamp (show z < 2 ^ 31 by omega), eL, am_sA_sA, nI_1, nI_1]
      refine ih (i + 1) (by omega) _ (fun x hx => ?_) (fun x hx => ?_)
      · by_cases e : x = z
        · rw [e, upd_s]; exact Or.inr rfl
        · rw [upd_n e]; exact h1 x hx
      · by_cases e : x = z
        · rw [e, upd_s]
          exact ⟨fun _ => ⟨u + i, by omega, by omega, z2⟩, fun _ => rfl⟩
        · rw [upd_n e, h2 x hx]
          constructor
          · rintro ⟨y, y1, y2, y3⟩
            exact ⟨y, y1, by omega, y3⟩
          · rintro ⟨y, y1, y2, y3⟩
            refine ⟨y, y1, ?_, y3⟩
            have : y ≠ u + i := fun c => e (by rw [c, z2] at y3; exact (nI_inj (by omega) (by omega) y3).symm)
            omega
  have loop1 : ∀ (j i : Nat), i + j = P → ∀ (f : Nat → Int32), (∀ x, x < i → f x = 0) → am_T true ya_11_marks d (fun r τ => r = none ∧ ∃ f : Nat → Int32, τ = am_sA σ 16 35 f ∧ mo_Mk f u P S) 2 [some (.ref (am_oid 16)), some (.int (nI u)), some (.int (nI v)), some (.int (nI i))] [] (am_sA σ 16 35 f) := by
    intro j
    induction j with
    | zero =>
      intro i hi f h
      refine kb_11_marks_2 (kt := fun _ => kb_11_marks_25 (k := ?_)) (kf := fun z => absurd ?_ z)
      · have h0 : ∀ x, x < P → f x ≠ nI (u + 1) := fun x hx z => by
          rw [h x (by omega), ← nI_0] at z
          have := nI_inj (by omega) (by omega) z
          omega
        exact loop2 (v - u) 0 (by omega) f (fun x hx => Or.inl (h x (by omega))) (fun x hx => ⟨fun z => absurd z (h0 x hx), fun ⟨y, y1, y2, _⟩ => by omega⟩)
      · rw [eK f 25 (by decide), k0]; exact nI_le (by omega) (by omega)
    | succ j ih =>
      intro i hi f h
      refine kb_11_marks_2 (kt := fun z => absurd z ?_) (kf := fun _ => ?_)
      · rw [eK f 25 (by decide), k0]; exact nI_ge (by omega) (by omega)
      refine kb_11_marks_12 (hi0 := vp_in_nI (by omega) (by omega)) (k := ?_)
      rw [nI_clamp (by omega), eL, am_sA_sA, nI_1]
      refine ih (i + 1) (by omega) _ (fun x hx => ?_)
      by_cases e : x = i
      · rw [e, upd_s]
      · rw [upd_n e]; exact h x (by omega)
  refine am_enter rfl (by simp [Value.category]) (Nat.le_of_ble_eq_true rfl) (kb_11_marks_0 (k := ?_))
  have := loop1 P 0 (by omega) (am_A σ 16 35) (fun x hx => absurd hx (Nat.not_lt_zero x))
  rw [am_sA_id, nI_0] at this
  exact this
