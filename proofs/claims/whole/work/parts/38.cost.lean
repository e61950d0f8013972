/-! costs of tests for a set of points: the values -/
def ft_crs (q : Nat) (fs sn : Nat → Nat) (S : Nat → Bool) : Nat → Bool := fun k => decide (k < q) && (S (fs k) && S (sn k))
def ft_mix (P : Nat) (S g b β : Nat → Bool) : Nat := am_cn (fun i => S i && (g i && β i)) P * am_cn (fun i => S i && (b i && β i)) P + (am_cn (fun i => S i && g i) P - am_cn (fun i => S i && (g i && β i)) P) * (am_cn (fun i => S i && b i) P - am_cn (fun i => S i && (b i && β i)) P)
def ft_cost (P q : Nat) (fs sn : Nat → Nat) (S g b β : Nat → Bool) : Option Nat :=
  if am_cn (fun i => S i && β i) P = 0 ∨ am_cn (fun i => S i && β i) P = am_cn S P then none
  else some (4 * ft_mix P S g b β + am_cn (fun k => ft_crs q fs sn S k && (β (fs k) ^^ β (sn k))) q)
theorem am_cn_mono {f g : Nat → Bool} (h : ∀ i, f i = true → g i = true) (n : Nat) : am_cn f n ≤ am_cn g n := by
  induction n with
  | zero => exact Nat.le_refl _
  | succ n ih =>
    unfold am_cn
    have := h n
    cases e1 : f n <;> cases e2 : g n <;> simp_all <;> omega
theorem ft_cost_lt {P q : Nat} {fs sn : Nat → Nat} {S g b β : Nat → Bool} (hP : P ≤ 200) (hq : q ≤ 300) {c : Nat} (h : ft_cost P q fs sn S g b β = some c) : c < 400000 := by
  unfold ft_cost at h
  split at h
  · cases h
  · injection h with h
    subst h
    have l1 := am_cn_le (fun i => S i && (g i && β i)) P
    have l2 := am_cn_le (fun i => S i && (b i && β i)) P
    have l3 := am_cn_le (fun i => S i && g i) P
    have l4 := am_cn_le (fun i => S i && b i) P
    have l5 := am_cn_le (fun k => ft_crs q fs sn S k && (β (fs k) ^^ β (sn k))) q
    have m1 := Nat.mul_le_mul (Nat.le_trans l1 hP) (Nat.le_trans l2 hP)
    have m2 := Nat.mul_le_mul (Nat.le_trans (Nat.sub_le (am_cn (fun i => S i && g i) P) (am_cn (fun i => S i && (g i && β i)) P)) (Nat.le_trans l3 hP)) (Nat.le_trans (Nat.sub_le (am_cn (fun i => S i && b i) P) (am_cn (fun i => S i && (b i && β i)) P)) (Nat.le_trans l4 hP))
    unfold ft_mix
    omega
theorem nI_rc (f : Nat → Bool) (u n : Nat) : nI (am_rc f u n) + am_bI (f (u + n)) = nI (am_rc f u (n + 1)) := by
  show _ = nI (am_rc f u n + (if f (u + n) = true then 1 else 0))
  cases h : f (u + n)
  · show nI _ + 0 = nI (_ + 0)
    rw [Int32.add_zero]
    rfl
  · show nI _ + 1 = nI (_ + 1)
    exact nI_1 _
theorem am_lb_sh (g b : Bool) : (am_lb g b &&& 1) = am_bI g ∧ ((am_lb g b >>> ((1 : Int32) &&& 31)) &&& 1) = am_bI b := by cases g <;> cases b <;> decide
theorem am_bI_and (a b : Bool) : (am_bI a &&& am_bI b) = am_bI (a && b) := by cases a <;> cases b <;> decide
theorem am_sh1b (x : Int32) {t : Nat} (ht : t < 32) : ((x >>> (nI t &&& 31)) &&& 1) = am_bI (bt x t) := am_sh1 x ht
/-! Fitter: what a node under work is -/
def ft_Nd (σ : am_St) (u v pu pv P q : Nat) (fs sn : Nat → Nat) (S : Nat → Bool) : Prop := am_I σ 5 7 = nI u ∧ am_I σ 5 8 = nI v ∧ am_I σ 5 9 = nI pu ∧ am_I σ 5 10 = nI pv ∧ v ≤ 200 ∧ pv ≤ 300 ∧ am_En (am_A σ 5 3) u v P S ∧ am_En (am_A σ 5 4) pu pv q (ft_crs q fs sn S)
def ft_Lb (σ : am_St) (P : Nat) (g b : Nat → Bool) : Prop := ∀ i, i < P → am_A σ 5 1 i = am_lb (g i) (b i)
theorem sp_0_costOf {d o P q t u v pu pv : Nat} {st td fs sn : Nat → Nat} {S g b : Nat → Bool} {σ : am_St} (hS : am_Sm σ o P q st td fs sn) (ht : t < 16) (hN : ft_Nd σ u v pu pv P q fs sn S) (hL : ft_Lb σ P g b) :
    am_C false ya_0_costOf d [.ref (am_oid 5), .ref (am_oid o), .int (nI t)] σ (fun r τ => τ = σ ∧ r = some (.int (match ft_cost P q fs sn S g b (fun i => bt (am_A σ 5 2 i) t) with | none => -2 | some c => nI c))) := by
  obtain ⟨ho, hP, hq, -, -, -, ⟨-, -, hsn, hab⟩, ⟨-, -, hfs, -⟩, -, -⟩ := hS
  obtain ⟨n1, n2, n3, n4, n5, n6, n7, n8⟩ := hN
  generalize hQ : (fun (r : Option Value) (τ : am_St) => τ = σ ∧ r = some (.int (match ft_cost P q fs sn S g b (fun i => bt (am_A σ 5 2 i) t) with | none => -2 | some c => nI c))) = Q
  have huv := n7.1
  have hpuv := n8.1
  -- by the places
  obtain ⟨ix, hix⟩ : ∃ ix : Nat → Nat, ix = fun j => (am_A σ 5 3 j).toNatClampNeg := ⟨_, rfl⟩
  have hat : ∀ j, u ≤ j → j < v → am_A σ 5 3 j = nI (ix j) ∧ ix j < P := fun j c1 c2 => by
    obtain ⟨i, e1, e2, -⟩ := n7.2.1 j c1 c2
    rw [hix]
    simp only [e2, nI_clamp (show i < 2 ^ 31 by omega)]
    exact ⟨trivial, e1⟩
  obtain ⟨px, hpx⟩ : ∃ px : Nat → Nat, px = fun j => (am_A σ 5 4 j).toNatClampNeg := ⟨_, rfl⟩
  have hpat : ∀ j, pu ≤ j → j < pv → am_A σ 5 4 j = nI (px j) ∧ px j < q := fun j c1 c2 => by
    obtain ⟨i, e1, e2, -⟩ := n8.2.1 j c1 c2
    rw [hpx]
    simp only [e2, nI_clamp (show i < 2 ^ 31 by omega)]
    exact ⟨trivial, e1⟩
  have conv : ∀ (p f : Nat → Bool), (∀ j, f j = p (ix j)) → am_rc f u (v - u) = am_cn (fun i => S i && p i) P := fun p f hf => by
    refine am_En_cn (by omega) (v - u) (by rw [show u + (v - u) = v by omega]; exact n7) (fun j i c1 c2 c3 c4 => ?_)
    rw [hf j, hix]
    simp only [c3, nI_clamp (show i < 2 ^ 31 by omega)]
  have convp : ∀ (p f : Nat → Bool), (∀ j, f j = p (px j)) → am_rc f pu (pv - pu) = am_cn (fun k => ft_crs q fs sn S k && p k) q := fun p f hf => by
    refine am_En_cn (by omega) (pv - pu) (by rw [show pu + (pv - pu) = pv by omega]; exact n8) (fun j i c1 c2 c3 c4 => ?_)
    rw [hf j, hpx]
    simp only [c3, nI_clamp (show i < 2 ^ 31 by omega)]
  obtain ⟨β, hβ⟩ : ∃ β : Nat → Bool, β = fun i => bt (am_A σ 5 2 i) t := ⟨_, rfl⟩
  rw [← hβ] at hQ
  have sz := am_En_size (by omega) n7
  -- the second loop
  have loop2 : ∀ (j i : Nat), i + j = pv - pu → ∀ (a3 a10 a11 a12 : Option Value) (x4 x5 x6 x7 : Int32), (∀ τ, τ = σ → Q (some (.int (4 * (x6 * x7 + (x4 - x6) * (x5 - x7)) + nI (am_rc (fun j => β (fs (px j)) ^^ β (sn (px j))) pu (pv - pu))))) τ) → am_T false ya_0_costOf d Q 149 [some (.ref (am_oid 5)), some (.ref (am_oid o)), some (.int (nI t)), a3, some (.int x4), some (.int x5), some (.int x6), some (.int x7), some (.int (nI (am_rc (fun j => β (fs (px j)) ^^ β (sn (px j))) pu i))), some (.int (nI (pu + i))), a10, a11, a12] [] σ := by
    intro j
    induction j with
    | zero =>
      intro i hi a3 a10 a11 a12 x4 x5 x6 x7 k
      have : i = pv - pu := by omega
      subst this
      refine kb_0_costOf_149 (kt := fun _ => kb_0_costOf_211 (hq := k σ rfl)) (kf := fun c => absurd ?_ c)
      rw [n4]; exact nI_le (by omega) (by omega)
    | succ j ih =>
      intro i hi a3 a10 a11 a12 x4 x5 x6 x7 k
      obtain ⟨e1, e2⟩ := hpat (pu + i) (by omega) (by omega)
      have hx := hab _ e2
      have v1 : vp_in (nI (pu + i)) 300 := vp_in_nI (by omega) (by omega)
      have c0 : am_A σ 5 4 (nI (pu + i)).toNatClampNeg = nI (px (pu + i)) := by rw [nI_clamp (by omega)]; exact e1
      have c1 : am_A σ o 4 (nI (px (pu + i))).toNatClampNeg = nI (fs (px (pu + i))) := by rw [nI_clamp (by omega)]; exact hfs _ e2
      have c2 : am_A σ o 5 (nI (px (pu + i))).toNatClampNeg = nI (sn (px (pu + i))) := by rw [nI_clamp (by omega)]; exact hsn _ e2
      have vq : vp_in (nI (px (pu + i))) 300 := vp_in_nI (by omega) (by omega)
      refine kb_0_costOf_149 (kt := fun c => absurd c ?_) (kf := fun _ => ?_)
      · rw [n4]; exact nI_ge (by omega) (by omega)
      · refine kb_0_costOf_158 (hi0 := v1) (hi1 := by rw [c0]; exact vq) (hi2 := by rw [c0, c1]; exact vp_in_nI (by omega) (by omega)) (hi3 := by rw [c0]; exact vq) (hi4 := by rw [c0, c2]; exact vp_in_nI (by omega) (by omega)) (k := ?_)
        rw [c0, c1, c2, nI_clamp (show fs (px (pu + i)) < 2 ^ 31 by omega), nI_clamp (show sn (px (pu + i)) < 2 ^ 31 by omega), am_sh1b _ (show t < 32 by omega), b_xor, nI_1]
        have e3 : (bt (am_A σ 5 2 (fs (px (pu + i)))) t ^^ bt (am_A σ 5 2 (sn (px (pu + i)))) t) = (fun j => β (fs (px j)) ^^ β (sn (px j))) (pu + i) := by rw [hβ]
        rw [e3, nI_rc]
        exact ih (i + 1) (by omega) a3 _ _ _ x4 x5 x6 x7 k
  -- the first loop
  have loop1 : ∀ (j i : Nat), i + j = v - u → ∀ (a9 a10 a11 a12 : Option Value), am_T false ya_0_costOf d Q 20 [some (.ref (am_oid 5)), some (.ref (am_oid o)), some (.int (nI t)), some (.int (nI (am_rc (fun j => β (ix j)) u i))), some (.int (nI (am_rc (fun j => g (ix j)) u i))), some (.int (nI (am_rc (fun j => b (ix j)) u i))), some (.int (nI (am_rc (fun j => g (ix j) && β (ix j)) u i))), some (.int (nI (am_rc (fun j => b (ix j) && β (ix j)) u i))), some (.int (nI (u + i))), a9, a10, a11, a12] [] σ := by
    intro j
    induction j with
    | zero =>
      intro i hi a9 a10 a11 a12
      have : i = v - u := by omega
      subst this
      rw [conv β _ (fun _ => rfl), conv g _ (fun _ => rfl), conv b _ (fun _ => rfl), conv (fun i => g i && β i) _ (fun _ => rfl), conv (fun i => b i && β i) _ (fun _ => rfl)]
      have l1 := am_cn_le (fun i => S i && β i) P
      refine kb_0_costOf_20 (kt := fun _ => ?_) (kf := fun c => absurd ?_ c)
      · refine kb_0_costOf_120 (kt := fun c => kb_0_costOf_137 ?_) (kf := fun c => ?_)
        · rw [← nI_0] at c
          have c' := nI_inj (by omega) (by omega) c
          rw [← hQ]
          refine ⟨rfl, ?_⟩
          unfold ft_cost
          rw [if_pos (Or.inl c')]
        · have hc0 : am_cn (fun i => S i && β i) P ≠ 0 := fun z => c (by rw [z]; exact nI_0)
          refine kb_0_costOf_124 (kt := fun c2 => ?_) (kf := fun c2 => kb_0_costOf_137 ?_)
          · rw [n1, n2, nI_sub (by omega), sz] at c2
            have hc1 : ¬ (am_cn (fun i => S i && β i) P = 0 ∨ am_cn (fun i => S i && β i) P = am_cn S P) := fun z => z.elim hc0 (fun z => c2 (by rw [z]))
            refine kb_0_costOf_140 (k := ?_)
            rw [n3]
            refine loop2 (pv - pu) 0 (by omega) _ _ _ _ _ _ _ _ (fun τ hτ => ?_)
            rw [← hQ]
            refine ⟨hτ, ?_⟩
            rw [convp (fun k => β (fs k) ^^ β (sn k)) _ (fun _ => rfl)]
            unfold ft_cost
            rw [if_neg hc1]
            have q1 : am_cn (fun i => S i && (g i && β i)) P ≤ am_cn (fun i => S i && g i) P := am_cn_mono (fun i h => by simp_all) P
            have q2 : am_cn (fun i => S i && (b i && β i)) P ≤ am_cn (fun i => S i && b i) P := am_cn_mono (fun i h => by simp_all) P
            rw [nI_mul, nI_sub q1, nI_sub q2, nI_mul, nI_add, show (4 : Int32) = nI 4 from rfl, nI_mul, nI_add]
            rfl
          · rw [n1, n2, nI_sub (by omega), sz] at c2
            have l2 := am_cn_le S P
            have c3 := nI_inj (by omega) (by omega) c2
            rw [← hQ]
            refine ⟨rfl, ?_⟩
            unfold ft_cost
            rw [if_pos (Or.inr c3)]
      · rw [n2]; exact nI_le (by omega) (by omega)
    | succ j ih =>
      intro i hi a9 a10 a11 a12
      obtain ⟨e1, e2⟩ := hat (u + i) (by omega) (by omega)
      have v1 : vp_in (nI (u + i)) 200 := vp_in_nI (by omega) (by omega)
      have c0 : am_A σ 5 3 (nI (u + i)).toNatClampNeg = nI (ix (u + i)) := by rw [nI_clamp (by omega)]; exact e1
      have v2 : vp_in (am_A σ 5 3 (nI (u + i)).toNatClampNeg) 200 := by rw [c0]; exact vp_in_nI (by omega) (by omega)
      refine kb_0_costOf_20 (kt := fun c => absurd c ?_) (kf := fun _ => ?_)
      · rw [n2]; exact nI_ge (by omega) (by omega)
      · refine kb_0_costOf_29 (hi0 := v1) (hi1 := v2) (hi2 := v1) (hi3 := v2) (k := ?_)
        rw [c0, nI_clamp (show ix (u + i) < 2 ^ 31 by omega), am_sh1b _ (show t < 32 by omega), hL _ e2, (am_lb_sh _ _).1, (am_lb_sh _ _).2, am_bI_and, am_bI_and, nI_1]
        have e3 : bt (am_A σ 5 2 (ix (u + i))) t = β (ix (u + i)) := by rw [hβ]
        rw [e3]
        have := ih (i + 1) (by omega) (some (.int (am_lb (g (ix (u + i))) (b (ix (u + i)))))) (some (.int (am_bI (β (ix (u + i)))))) (some (.int (am_bI (g (ix (u + i)))))) (some (.int (am_bI (b (ix (u + i))))))
        rw [← nI_rc, ← nI_rc, ← nI_rc, ← nI_rc, ← nI_rc] at this
        exact this
  refine am_enter rfl (by simp [Value.category]) (Nat.le_of_ble_eq_true rfl) (kb_0_costOf_0 (k := ?_))
  rw [n1]
  exact loop1 (v - u) 0 (by omega) _ _ _ _
