/-! THE REFERENCE: costOf, bestTest -/
theorem am_lb_sr (g b : Bool) : (am_lb g b >>> ((1 : Int32) &&& 31)) = am_bI b := by cases g <;> cases b <;> decide
def mo_cI (x : Option Nat) : Int32 := match x with
  | none => -1
  | some c => nI c
theorem sp_11_costOf {d P q u v t : Nat} {st td fs sn : Nat → Nat} {S g b : Nat → Bool} {σ : am_St} (hS : mo_Sm σ P q st td fs sn) (ht : t < 16) (hv : v ≤ 200) (hE : am_En (am_A σ 16 34) u v P S) (hL : mo_Lb (am_A σ 16 31) P g b) (hM : mo_Mk (am_A σ 16 35) u P S) : am_C true ya_11_costOf (d + 1) [.ref (am_oid 16), .int (nI t), .int (nI u), .int (nI v)] σ (fun r τ => τ = σ ∧ r = some (.int (mo_cI (ft_cost P q fs sn S g b (fun i => bt (am_A σ 16 18 (st i)) t))))) := by
  obtain ⟨β, hβ⟩ : ∃ β : Nat → Bool, β = fun i => bt (am_A σ 16 18 (st i)) t := ⟨_, rfl⟩
  have so : ∀ i, i < P → am_C true ya_11_isSo d [.ref (am_oid 16), .int (nI i), .int (nI t)] σ (fun r τ => τ = σ ∧ r = some (.int (am_bI (β i)))) := fun i hi => by
    rw [hβ]; exact sp_11_isSo hS hi (by omega)
  rw [← hβ]
  clear hβ
  obtain ⟨hP, hq, k0, k1, -, hpr⟩ := hS
  generalize hQ : (fun (r : Option Value) (τ : am_St) => τ = σ ∧ r = some (.int (mo_cI (ft_cost P q fs sn S g b β)))) = Q
  have huv := hE.1
  obtain ⟨ix, hix⟩ : ∃ ix : Nat → Nat, ix = fun j => (am_A σ 16 34 j).toNatClampNeg := ⟨_, rfl⟩
  have hat : ∀ j, u ≤ j → j < v → am_A σ 16 34 j = nI (ix j) ∧ ix j < P := fun j c1 c2 => by
    obtain ⟨i, e1, e2, -⟩ := hE.2.1 j c1 c2
    rw [hix]
    simp only [e2, nI_clamp (show i < 2 ^ 31 by omega)]
    exact ⟨trivial, e1⟩
  have conv : ∀ (p f : Nat → Bool), (∀ j, f j = p (ix j)) → am_rc f u (v - u) = am_cn (fun i => S i && p i) P := fun p f hf => by
    refine am_En_cn (by omega) (v - u) (by rw [show u + (v - u) = v by omega]; exact hE) (fun j i c1 c2 c3 c4 => ?_)
    rw [hf j, hix]
    simp only [c3, nI_clamp (show i < 2 ^ 31 by omega)]
  have sz := am_En_size (by omega) hE
  have mk : ∀ i, i < P → (am_A σ 16 35 i = nI u + 1) = (S i = true) := fun i hi => by
    rw [hM i hi, nI_1]
    cases hs : S i
    · simp only [Bool.false_eq_true, if_false, eq_iff_iff, iff_false]
      rw [← nI_0]
      exact fun z => by have := nI_inj (by omega) (by omega) z; omega
    · simp
  obtain ⟨crs, hcrs⟩ : ∃ crs : Nat → Bool, crs = fun k => ft_crs q fs sn S k && (β (fs k) ^^ β (sn k)) := ⟨_, rfl⟩
  -- the pairs
  have loop2 : ∀ (j i : Nat), i + j = q → ∀ (a4 a11 a12 : Option Value) (x5 x6 x7 x8 : Int32), (∀ τ, τ = σ → Q (some (.int (4 * (x5 * x6 + (x7 - x5) * (x8 - x6)) + nI (am_cn crs q)))) τ) → am_T true ya_11_costOf (d + 1) Q 148 [some (.ref (am_oid 16)), some (.int (nI t)), some (.int (nI u)), some (.int (nI v)), a4, some (.int x5), some (.int x6), some (.int x7), some (.int x8), some (.int (nI (am_cn crs i))), some (.int (nI i)), a11, a12] [] σ := by
    intro j
    induction j with
    | zero =>
      intro i hi a4 a11 a12 x5 x6 x7 x8 k
      have : i = q := by omega
      subst this
      refine kb_11_costOf_148 (kt := fun _ => kb_11_costOf_244 (hq := k σ rfl)) (kf := fun c => absurd ?_ c)
      rw [k1]; exact nI_le (by omega) (by omega)
    | succ j ih =>
      intro i hi a4 a11 a12 x5 x6 x7 x8 k
      obtain ⟨p1, p2, p3, p4⟩ := hpr i (by omega)
      have x1 : (408 : Int32) + nI i = nI (408 + i) := nI_add 408 i
      have x2 : (708 : Int32) + nI i = nI (708 + i) := nI_add 708 i
      have y1 : am_A σ 16 25 (408 + nI i).toNatClampNeg = nI (fs i) := by rw [x1, nI_clamp (by omega)]; exact p1
      have y2 : am_A σ 16 25 (708 + nI i).toNatClampNeg = nI (sn i) := by rw [x2, nI_clamp (by omega)]; exact p2
      have vf : vp_in (nI (fs i)) 200 := vp_in_nI (by omega) (by omega)
      have vs : vp_in (nI (sn i)) 200 := vp_in_nI (by omega) (by omega)
      have hcr : crs i = ((S (fs i) && S (sn i)) && (β (fs i) ^^ β (sn i))) := by
        rw [hcrs]; unfold ft_crs; simp [show i < q by omega]
      have next := ih (i + 1) (by omega) a4 (some (.int (nI (fs i)))) (some (.int (nI (sn i)))) x5 x6 x7 x8 k
      rw [← nI_cn, hcr] at next
      have no : ((S (fs i) && S (sn i)) && (β (fs i) ^^ β (sn i))) = false → am_T true ya_11_costOf (d + 1) Q 234 [some (.ref (am_oid 16)), some (.int (nI t)), some (.int (nI u)), some (.int (nI v)), a4, some (.int x5), some (.int x6), some (.int x7), some (.int x8), some (.int (nI (am_cn crs i))), some (.int (nI i)), some (.int (nI (fs i))), some (.int (nI (sn i)))] [.int (nI (am_cn crs i))] σ := fun z => by
        rw [z] at next
        refine kb_11_costOf_234 (k := kb_11_costOf_235 (k := ?_))
        rw [nI_1]; exact next
      refine kb_11_costOf_148 (kt := fun c => absurd c ?_) (kf := fun _ => ?_)
      · rw [k1]; exact nI_ge (by omega) (by omega)
      refine kb_11_costOf_159 (hi0 := by rw [x1]; exact vp_in_nI (by omega) (by omega)) (hi1 := by rw [x2]; exact vp_in_nI (by omega) (by omega)) (hi2 := by rw [y1]; exact vf) (kt := fun z => ?_) (kf := fun z => ?_)
      · rw [y1, nI_clamp (by omega), mk _ p3] at z
        rw [y1, y2]
        exact no (by rw [Bool.eq_false_iff.mpr z]; simp)
      · rw [y1, nI_clamp (by omega), mk _ p3] at z
        rw [y1, y2]
        refine kb_11_costOf_200 (hi0 := vs) (kt := fun y => ?_) (kf := fun y => ?_)
        · rw [nI_clamp (by omega), mk _ p4] at y
          exact no (by rw [Bool.eq_false_iff.mpr y]; simp)
        · rw [nI_clamp (by omega), mk _ p4] at y
          refine kb_11_costOf_213 (hC := so _ p3) (k := fun r τ hr => ?_)
          obtain ⟨rfl, rfl⟩ := hr
          refine kb_11_costOf_220 (hC := so _ p4) (k := fun r τ' hr => ?_)
          obtain ⟨rfl, rfl⟩ := hr
          refine kb_11_costOf_227 (kt := fun w => ?_) (kf := fun w => ?_)
          · rw [am_bI_inj] at w
            exact no (by rw [w]; simp)
          · rw [am_bI_inj] at w
            have : (β (fs i) ^^ β (sn i)) = true := by
              cases e1 : β (fs i) <;> cases e2 : β (sn i) <;> simp_all
            rw [z, y, this] at next
            refine kb_11_costOf_230 (k := kb_11_costOf_235 (k := ?_))
            rw [nI_1 i]; exact next
  have loop1 : ∀ (j i : Nat), i + j = v - u → ∀ (a10 a11 a12 : Option Value), am_T true ya_11_costOf (d + 1) Q 18 [some (.ref (am_oid 16)), some (.int (nI t)), some (.int (nI u)), some (.int (nI v)), some (.int (nI (am_rc (fun j => β (ix j)) u i))), some (.int (nI (am_rc (fun j => g (ix j) && β (ix j)) u i))), some (.int (nI (am_rc (fun j => b (ix j) && β (ix j)) u i))), some (.int (nI (am_rc (fun j => g (ix j)) u i))), some (.int (nI (am_rc (fun j => b (ix j)) u i))), some (.int (nI (u + i))), a10, a11, a12] [] σ := by
    intro j
    induction j with
    | zero =>
      intro i hi a10 a11 a12
      have : i = v - u := by omega
      subst this
      rw [conv β _ (fun _ => rfl), conv g _ (fun _ => rfl), conv b _ (fun _ => rfl), conv (fun i => g i && β i) _ (fun _ => rfl), conv (fun i => b i && β i) _ (fun _ => rfl)]
      have l1 := am_cn_le (fun i => S i && β i) P
      refine kb_11_costOf_18 (kt := fun _ => ?_) (kf := fun c => absurd (nI_le (by omega) (by omega)) c)
      refine kb_11_costOf_127 (kt := fun c => kb_11_costOf_140 ?_) (kf := fun c => ?_)
      · rw [← nI_0] at c
        have c' := nI_inj (by omega) (by omega) c
        rw [← hQ]
        refine ⟨rfl, ?_⟩
        unfold ft_cost
        rw [if_pos (Or.inl c')]; rfl
      · have hc0 : am_cn (fun i => S i && β i) P ≠ 0 := fun z => c (by rw [z]; exact nI_0)
        refine kb_11_costOf_132 (kt := fun c2 => ?_) (kf := fun c2 => kb_11_costOf_140 ?_)
        · rw [nI_sub (by omega), sz] at c2
          have hc1 : ¬ (am_cn (fun i => S i && β i) P = 0 ∨ am_cn (fun i => S i && β i) P = am_cn S P) := fun z => z.elim hc0 (fun z => c2 (by rw [z]))
          refine kb_11_costOf_142 (k := ?_)
          have := loop2 q 0 (by omega) (some (.int (nI (am_cn (fun i => S i && β i) P)))) a11 a12 (nI (am_cn (fun i => S i && (g i && β i)) P)) (nI (am_cn (fun i => S i && (b i && β i)) P)) (nI (am_cn (fun i => S i && g i) P)) (nI (am_cn (fun i => S i && b i) P)) (fun τ hτ => ?_)
          · rw [show am_cn crs 0 = 0 from rfl, nI_0] at this
            exact this
          · rw [← hQ]
            refine ⟨hτ, ?_⟩
            rw [hcrs]
            unfold ft_cost
            rw [if_neg hc1]
            have q1 : am_cn (fun i => S i && (g i && β i)) P ≤ am_cn (fun i => S i && g i) P := am_cn_mono (fun i h => by simp_all) P
            have q2 : am_cn (fun i => S i && (b i && β i)) P ≤ am_cn (fun i => S i && b i) P := am_cn_mono (fun i h => by simp_all) P
            rw [nI_mul, nI_sub q1, nI_sub q2, nI_mul, nI_add, show (4 : Int32) = nI 4 from rfl, nI_mul, nI_add]
            rfl
        · rw [nI_sub (by omega), sz] at c2
          have l2 := am_cn_le S P
          have c3 := nI_inj (by omega) (by omega) c2
          rw [← hQ]
          refine ⟨rfl, ?_⟩
          unfold ft_cost
          rw [if_pos (Or.inr c3)]; rfl
    | succ j ih =>
      intro i hi a10 a11 a12
      obtain ⟨e1, e2⟩ := hat (u + i) (by omega) (by omega)
      have v1 : vp_in (nI (u + i)) 200 := vp_in_nI (by omega) (by omega)
      have c0 : am_A σ 16 34 (nI (u + i)).toNatClampNeg = nI (ix (u + i)) := by rw [nI_clamp (by omega)]; exact e1
      have v2 : vp_in (am_A σ 16 34 (nI (u + i)).toNatClampNeg) 200 := by rw [c0]; exact vp_in_nI (by omega) (by omega)
      refine kb_11_costOf_18 (kt := fun c => absurd c (nI_ge (by omega) (by omega))) (kf := fun _ => ?_)
      refine kb_11_costOf_24 (hi0 := v1) (hi1 := v2) (hi2 := v1) (hC := by rw [c0]; exact so _ e2) (k := fun r τ hr => ?_)
      obtain ⟨rfl, rfl⟩ := hr
      rw [c0, nI_clamp (show ix (u + i) < 2 ^ 31 by omega), hL _ e2]
      have next := ih (i + 1) (by omega) (some (.int (am_lb (g (ix (u + i))) (b (ix (u + i)))))) (some (.int (am_bI (β (ix (u + i)))))) a12
      rw [← nI_rc, ← nI_rc, ← nI_rc, ← nI_rc, ← nI_rc] at next
      cases hb : β (ix (u + i)) with
      | true =>
        refine kb_11_costOf_50 (kt := fun z => absurd z (by decide)) (kf := fun _ => kb_11_costOf_59 (k := kb_11_costOf_64 (kt := fun z => absurd z (by decide)) (kf := fun _ => kb_11_costOf_92 (k := kb_11_costOf_100 (kt := fun z => absurd z (by decide)) (kf := fun _ => kb_11_costOf_110 (k := kb_11_costOf_118 (k := ?_)))))))
        rw [(am_lb_sh _ _).1, am_lb_sr, nI_1 (u + i)]
        rw [hb] at next
        simp only [Bool.and_true] at next
        exact next
      | false =>
        refine kb_11_costOf_50 (kt := fun _ => kb_11_costOf_63 (k := kb_11_costOf_64 (kt := fun _ => kb_11_costOf_99 (k := kb_11_costOf_100 (kt := fun _ => kb_11_costOf_117 (k := kb_11_costOf_118 (k := ?_))) (kf := fun z => absurd rfl z))) (kf := fun z => absurd rfl z))) (kf := fun z => absurd rfl z)
        rw [(am_lb_sh _ _).1, am_lb_sr, nI_1]
        rw [hb] at next
        simp only [Bool.and_false] at next
        exact next
  refine am_enter rfl (by simp [Value.category]) (Nat.le_of_ble_eq_true rfl) (kb_11_costOf_0 (k := ?_))
  exact loop1 (v - u) 0 (by omega) _ _ _
theorem sp_11_bestTest {d P q u v T : Nat} {al : Nat → Bool} {st td fs sn : Nat → Nat} {S g b : Nat → Bool} {σ : am_St} (hS : mo_Sm σ P q st td fs sn) (hT : am_A σ 16 3 4 = nI T) (hT2 : T ≤ 16) (hal : ∀ t, t < T → (nI t = am_I σ 16 30) = (al t = false)) (hv : v ≤ 200) (hE : am_En (am_A σ 16 34) u v P S) (hL : mo_Lb (am_A σ 16 31) P g b) : am_C true ya_11_bestTest (d + 2) [.ref (am_oid 16), .int (nI u), .int (nI v)] σ (fun r τ => r = some (.int (ft_oI (ft_bst al (fun t => ft_cost P q fs sn S g b (fun i => bt (am_A σ 16 18 (st i)) t)) T))) ∧ ∃ f : Nat → Int32, τ = am_sA σ 16 35 f) := by
  obtain ⟨cost, hcost⟩ : ∃ cost : Nat → Option Nat, cost = fun t => ft_cost P q fs sn S g b (fun i => bt (am_A σ 16 18 (st i)) t) := ⟨_, rfl⟩
  rw [← hcost]
  generalize hQ : (fun (r : Option Value) (τ : am_St) => r = some (.int (ft_oI (ft_bst al cost T))) ∧ ∃ f : Nat → Int32, τ = am_sA σ 16 35 f) = Q
  have hlt : ∀ t c, cost t = some c → c < 400000 := fun t c h => ft_cost_lt hS.1 hS.2.1 (by rw [hcost] at h; exact h)
  refine am_enter rfl (by simp [Value.category]) (Nat.le_of_ble_eq_true rfl) ?_
  refine kb_11_bestTest_0 (hC := sp_11_marks hS hv hE) (k := fun r τ hr => ?_)
  obtain ⟨rfl, mf, rfl, hM⟩ := hr
  have eK : ∀ (k : Nat), k ≠ 35 → am_A (am_sA σ 16 35 mf) 16 k = am_A σ 16 k := fun k h => by rw [am_A_sA, if_neg (fun z => h z.1)]
  have hcc : ∀ t, t < T → am_C true ya_11_costOf (d + 1) [.ref (am_oid 16), .int (nI t), .int (nI u), .int (nI v)] (am_sA σ 16 35 mf) (fun r τ => τ = am_sA σ 16 35 mf ∧ r = some (.int (mo_cI (cost t)))) := fun t ht => by
    have := sp_11_costOf (d := d) (t := t) (u := u) (v := v) (S := S) (g := g) (b := b) (hS.same (eK 25 (by decide))) (by omega) hv (by rw [eK 34 (by decide)]; exact hE) (by rw [eK 31 (by decide)]; exact hL) (by rw [am_A_sA, if_pos ⟨rfl, rfl⟩]; exact hM)
    rw [eK 18 (by decide)] at this
    rw [hcost]; exact this
  have loop : ∀ (j i : Nat), i + j = T → ∀ (x4 : Int32) (a6 : Option Value), (∀ t c, ft_bst al cost i = some (t, c) → x4 = nI c) → am_T true ya_11_bestTest (d + 2) Q 14 [some (.ref (am_oid 16)), some (.int (nI u)), some (.int (nI v)), some (.int (ft_oI (ft_bst al cost i))), some (.int x4), some (.int (nI i)), a6] [] (am_sA σ 16 35 mf) := by
    intro j
    induction j with
    | zero =>
      intro i hi x4 a6 hx
      have : i = T := by omega
      subst this
      refine kb_11_bestTest_14 (kt := fun _ => kb_11_bestTest_82 ?_) (kf := fun c => absurd ?_ c)
      · rw [← hQ]; exact ⟨rfl, mf, rfl⟩
      · rw [eK 3 (by decide), hT]; exact nI_le (Nat.le_refl _) (by omega)
    | succ j ih =>
      intro i hi x4 a6 hx
      have keep : (if al i = true then cost i else none) = none → ∀ (a6 : Option Value), am_T true ya_11_bestTest (d + 2) Q 76 [some (.ref (am_oid 16)), some (.int (nI u)), some (.int (nI v)), some (.int (ft_oI (ft_bst al cost i))), some (.int x4), some (.int (nI i)), a6] [] (am_sA σ 16 35 mf) := by
        intro hn a6
        refine kb_11_bestTest_76 (k := ?_)
        rw [nI_1]
        have e : ft_bst al cost (i + 1) = ft_bst al cost i := by
          show (match (if al i = true then cost i else none) with | none => ft_bst al cost i | some c => _) = _
          rw [hn]
        have := ih (i + 1) (by omega) x4 a6 (by rw [e]; exact hx)
        rw [e] at this
        exact this
      refine kb_11_bestTest_14 (kt := fun c => absurd c ?_) (kf := fun _ => ?_)
      · rw [eK 3 (by decide), hT]; exact nI_ge (by omega) (by omega)
      refine kb_11_bestTest_25 (kt := fun c => ?_) (kf := fun c => ?_)
      · have c' : al i = true := by
          have := hal i (by omega)
          cases e : al i
          · rw [e] at this; exact absurd (this.mpr rfl) c
          · rfl
        refine kb_11_bestTest_38 (hC := hcc i (by omega)) (k := fun r τ hr => ?_)
        obtain ⟨rfl, rfl⟩ := hr
        cases hc : cost i with
        | none => exact kb_11_bestTest_46 (kt := fun _ => keep (by rw [if_pos c']; exact hc) _) (kf := fun z => absurd rfl z)
        | some cc =>
          have hcc' := hlt i cc hc
          have hif : (if al i = true then cost i else none) = some cc := by rw [if_pos c']; exact hc
          refine kb_11_bestTest_46 (kt := fun z => absurd z (nI_neg1 cc (by omega))) (kf := fun _ => ?_)
          cases hb : ft_bst al cost i with
          | none =>
            have e : ft_bst al cost (i + 1) = some (i, cc) := by
              show (match (if al i = true then cost i else none) with | none => ft_bst al cost i | some c => match ft_bst al cost i with | none => some (i, c) | some (t, c') => if c < c' then some (i, c) else some (t, c')) = _
              rw [hif, hb]
            refine kb_11_bestTest_54 (kt := fun _ => kb_11_bestTest_69 (k := kb_11_bestTest_76 (k := ?_))) (kf := fun z => absurd rfl z)
            rw [nI_1]
            have := ih (i + 1) (by omega) (nI cc) (some (.int (nI cc))) (fun t c' h => by rw [e] at h; injection h with h; injection h with h1 h2; rw [h2])
            rw [e] at this
            exact this
          | some p =>
            obtain ⟨t, c'⟩ := p
            have hx4 := hx t c' hb
            have htl := ft_bst_spec _ _ _ hb
            have hc' := hlt t c' htl.2.2
            have e : ft_bst al cost (i + 1) = if cc < c' then some (i, cc) else some (t, c') := by
              show (match (if al i = true then cost i else none) with | none => ft_bst al cost i | some c => match ft_bst al cost i with | none => some (i, c) | some (t, c') => if c < c' then some (i, c) else some (t, c')) = _
              rw [hif, hb]
            refine kb_11_bestTest_54 (kt := fun z => absurd z (nI_neg1 t (by omega))) (kf := fun _ => ?_)
            refine kb_11_bestTest_59 (kt := fun z => ?_) (kf := fun z => ?_)
            · have z : nI cc < x4 := z
              rw [hx4, nI_ltI (by omega) (by omega)] at z
              rw [if_pos z] at e
              refine kb_11_bestTest_69 (k := kb_11_bestTest_76 (k := ?_))
              rw [nI_1]
              have := ih (i + 1) (by omega) (nI cc) (some (.int (nI cc))) (fun t2 c2 h => by rw [e] at h; injection h with h; injection h with h1 h2; rw [h2])
              rw [e] at this
              exact this
            · have z : ¬ nI cc < x4 := z
              rw [hx4, nI_ltI (by omega) (by omega)] at z
              rw [if_neg z] at e
              refine kb_11_bestTest_66 (k := kb_11_bestTest_76 (k := ?_))
              rw [nI_1]
              have := ih (i + 1) (by omega) x4 (some (.int (nI cc))) (fun t2 c2 h => by rw [e] at h; injection h with h; injection h with h1 h2; rw [hx4, h2])
              rw [e] at this
              exact this
      · have c' : al i = false := (hal i (by omega)).mp c
        refine kb_11_bestTest_34 (k := kb_11_bestTest_46 (kt := fun _ => keep (by rw [if_neg (by rw [c']; decide)]) _) (kf := fun z => absurd rfl z))
  refine kb_11_bestTest_6 (k := ?_)
  have := loop T 0 (by omega) 0 none (fun t c h => by cases h)
  rw [nI_0] at this
  exact this
