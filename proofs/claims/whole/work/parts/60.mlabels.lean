/-! THE REFERENCE: its samples; follows, labels -/
def mo_Sm (σ : am_St) (P q : Nat) (st td fs sn : Nat → Nat) : Prop := P ≤ 200 ∧ q ≤ 300 ∧ am_A σ 16 25 0 = nI P ∧ am_A σ 16 25 1 = nI q ∧ (∀ i, i < P → am_A σ 16 25 (8 + i) = nI (st i) ∧ st i < 600 ∧ am_A σ 16 25 (208 + i) = nI (td i) ∧ td i < 4) ∧ ∀ k, k < q → am_A σ 16 25 (408 + k) = nI (fs k) ∧ am_A σ 16 25 (708 + k) = nI (sn k) ∧ fs k < P ∧ sn k < P
theorem mo_Sm.same {σ τ : am_St} {P q : Nat} {st td fs sn : Nat → Nat} (h : mo_Sm σ P q st td fs sn) (hA : am_A τ 16 25 = am_A σ 16 25) : mo_Sm τ P q st td fs sn := by
  obtain ⟨h1, h2, h3, h4, h5, h6⟩ := h
  exact ⟨h1, h2, by rw [hA]; exact h3, by rw [hA]; exact h4, fun i hi => by rw [hA]; exact h5 i hi, fun k hk => by rw [hA]; exact h6 k hk⟩
def mo_Lb (L : Nat → Int32) (P : Nat) (g b : Nat → Bool) : Prop := ∀ i, i < P → L i = am_lb (g i) (b i)
def am_b2 (b : Bool) : Int32 := if b = true then 2 else 0
theorem am_lb_m (g b : Bool) : (am_lb g b &&& 1) = am_bI g ∧ (am_lb g b &&& 2) = am_b2 b := by cases g <;> cases b <;> decide
theorem am_bI_le (a b : Bool) : (am_bI a ≤ am_bI b) = (a = true → b = true) := by cases a <;> cases b <;> decide
theorem am_b2_le (a b : Bool) : (am_b2 a ≤ am_b2 b) = (a = true → b = true) := by cases a <;> cases b <;> decide
/-- between g0 and its closure -/
def mo_Bt (q : Nat) (a b : Nat → Nat) (g0 g : Nat → Bool) : Prop := (∀ i, g0 i = true → g i = true) ∧ ∀ h : Nat → Bool, (∀ i, g0 i = true → h i = true) → am_Cl q a b h → ∀ i, g i = true → h i = true
theorem mo_Bt.add {q : Nat} {a b : Nat → Nat} {g0 g : Nat → Bool} (h : mo_Bt q a b g0 g) {k : Nat} (hk : k < q) (hg : g (a k) = true) : mo_Bt q a b g0 (fun j => j == b k || g j) := by
  refine ⟨fun i hi => by simp [h.1 i hi], fun hh h1 h2 i hi => ?_⟩
  rcases Bool.or_eq_true_iff.mp hi with c | c
  · rw [beq_iff_eq.mp c]; exact h2 k hk (h.2 hh h1 h2 _ hg)
  · exact h.2 hh h1 h2 i c
theorem mo_Bt.ls {q : Nat} {a b : Nat → Nat} {g0 g : Nat → Bool} (h : mo_Bt q a b g0 g) (hc : am_Cl q a b g) : am_Ls q a b g0 g := ⟨h.1, hc, h.2⟩
theorem am_cn_or1 {g : Nat → Bool} {i n : Nat} (hi : i < n) (h : g i = false) : am_cn (fun j => j == i || g j) n = am_cn g n + 1 := by
  refine am_cn_add (f := g) (f' := fun j => j == i || g j) hi h (by simp) (fun j hj => ?_)
  have e : (j == i) = false := by simpa using hj
  show (j == i || g j) = g j
  rw [e]; rfl
theorem mo_Lb_1 {L : Nat → Int32} {P z : Nat} {g b : Nat → Bool} (h : mo_Lb L P g b) (hz : z < P) : mo_Lb (upd L z (L z ||| 1)) P (fun j => j == z || g j) b := fun i hi => by
  by_cases c : i = z
  · subst c
    rw [upd_s, h i hi]
    simp only [beq_self_eq_true, Bool.true_or]
    cases g i <;> cases b i <;> decide
  · rw [upd_n c, h i hi]
    have e : (i == z) = false := by simpa using c
    simp only [e, Bool.false_or]
theorem mo_Lb_2 {L : Nat → Int32} {P z : Nat} {g b : Nat → Bool} (h : mo_Lb L P g b) (hz : z < P) : mo_Lb (upd L z (L z ||| 2)) P g (fun j => j == z || b j) := fun i hi => by
  by_cases c : i = z
  · subst c
    rw [upd_s, h i hi]
    simp only [beq_self_eq_true, Bool.true_or]
    cases g i <;> cases b i <;> decide
  · rw [upd_n c, h i hi]
    have e : (i == z) = false := by simpa using c
    simp only [e, Bool.false_or]
theorem sp_11_follows {d P q : Nat} {st td fs sn : Nat → Nat} {g0 b0 : Nat → Bool} {σ : am_St} (hS : mo_Sm σ P q st td fs sn) (hL : mo_Lb (am_A σ 16 31) P g0 b0) (hz0 : ∀ i, P ≤ i → g0 i = false ∧ b0 i = false) : am_C true ya_11_follows d [.ref (am_oid 16)] σ (fun r τ => r = none ∧ ∃ L : Nat → Int32, τ = am_sA σ 16 31 L ∧ mo_Lb L P (am_clo q fs sn g0) (am_clo q sn fs b0) ∧ ∀ i, P ≤ i → am_clo q fs sn g0 i = false ∧ am_clo q sn fs b0 i = false) := by
  obtain ⟨hP, hq, k0, k1, -, hpr⟩ := hS
  generalize hQ : (fun (r : Option Value) (τ : am_St) => r = none ∧ ∃ L : Nat → Int32, τ = am_sA σ 16 31 L ∧ mo_Lb L P (am_clo q fs sn g0) (am_clo q sn fs b0) ∧ ∀ i, P ≤ i → am_clo q fs sn g0 i = false ∧ am_clo q sn fs b0 i = false) = Q
  have eK : ∀ L : Nat → Int32, am_A (am_sA σ 16 31 L) 16 25 = am_A σ 16 25 := fun L => by rw [am_A_sA, if_neg (by simp)]
  have eL : ∀ L : Nat → Int32, am_A (am_sA σ 16 31 L) 16 31 = L := fun L => by rw [am_A_sA, if_pos ⟨rfl, rfl⟩]
  have ofc : ∀ (c : Nat) (x : Int32) (k : Nat), x = nI c → x + nI k = nI (c + k) := fun c x k h => by rw [h, nI_add]
  have fin : ∀ (g b : Nat → Bool) (L : Nat → Int32) (a0 a1 a2 a3 a4 : Option Value), mo_Bt q fs sn g0 g → mo_Bt q sn fs b0 b → am_Cl q fs sn g → am_Cl q sn fs b → mo_Lb L P g b → (∀ i, P ≤ i → g i = false ∧ b i = false) → am_T true ya_11_follows d Q 117 [a0, a1, a2, a3, a4] [] (am_sA σ 16 31 L) := by
    intro g b L a0 a1 a2 a3 a4 h1 h2 h3 h4 h5 h6
    have e1 := (h1.ls h3).eq
    have e2 := (h2.ls h4).eq
    refine kb_11_follows_117 ?_
    rw [← hQ]
    exact ⟨rfl, L, rfl, by rw [← e1, ← e2]; exact h5, by rw [← e1, ← e2]; exact h6⟩
  have outer : ∀ (j : Nat) (g b : Nat → Bool) (L : Nat → Int32) (a2 a3 a4 : Option Value), 2 * P ≤ am_cn g P + am_cn b P + j → mo_Bt q fs sn g0 g → mo_Bt q sn fs b0 b → mo_Lb L P g b → (∀ i, P ≤ i → g i = false ∧ b i = false) → am_T true ya_11_follows d Q 2 [some (.ref (am_oid 16)), some (.int 1), a2, a3, a4] [] (am_sA σ 16 31 L) := by
    intro j
    induction j with
    | zero =>
      intro g b L a2 a3 a4 hj h1 h2 h5 h6
      -- all is labelled: one pass changes nothing
      have lg := am_cn_le g P
      have lb := am_cn_le b P
      have pass : ∀ (m i : Nat), i + m = q → ∀ (a3 a4 : Option Value), (∀ k, k < i → (g (fs k) = true → g (sn k) = true) ∧ (b (sn k) = true → b (fs k) = true)) → am_T true ya_11_follows d Q 10 [some (.ref (am_oid 16)), some (.int 0), some (.int (nI i)), a3, a4] [] (am_sA σ 16 31 L) := by
        intro m
        induction m with
        | zero =>
          intro i hi a3 a4 hcl
          have : i = q := by omega
          subst this
          refine kb_11_follows_10 (kt := fun _ => kb_11_follows_114 (k := ?_)) (kf := fun z => absurd ?_ z)
          · exact kb_11_follows_2 (kt := fun _ => fin g b L _ _ _ _ _ h1 h2 (fun k hk => (hcl k hk).1) (fun k hk => (hcl k hk).2) h5 h6) (kf := fun z => absurd rfl z)
          · rw [eK, k1]; exact nI_le (Nat.le_refl _) (by omega)
        | succ m ihm =>
          intro i hi a3 a4 hcl
          obtain ⟨p1, p2, p3, p4⟩ := hpr i (by omega)
          have x1 : (408 : Int32) + nI i = nI (408 + i) := ofc 408 _ i rfl
          have x2 : (708 : Int32) + nI i = nI (708 + i) := ofc 708 _ i rfl
          have y1 : am_A (am_sA σ 16 31 L) 16 25 (408 + nI i).toNatClampNeg = nI (fs i) := by rw [x1, nI_clamp (by omega), eK]; exact p1
          have y2 : am_A (am_sA σ 16 31 L) 16 25 (708 + nI i).toNatClampNeg = nI (sn i) := by rw [x2, nI_clamp (by omega), eK]; exact p2
          have all : ∀ (f : Nat → Bool), am_cn f P = P → ∀ z, z < P → f z = true := fun f hf z hz => by
            have s1 := am_cn_split (fun _ => true) f P
            have s2 : am_cn (fun _ => true) P = P := by
              have : ∀ n, am_cn (fun _ => true) n = n := fun n => by
                induction n with
                | zero => rfl
                | succ n ih => unfold am_cn; rw [ih]; rfl
              exact this P
            have s3 : am_cn (fun i => true && f i) P = am_cn f P := am_cn_congr (fun i _ => by simp)
            have s4 : am_cn (fun i => true && !f i) P = 0 := by omega
            have := am_cn_zero s4 z hz
            simpa using this
          have ag := all g (by omega)
          have ab := all b (by omega)
          refine kb_11_follows_10 (kt := fun z => absurd z ?_) (kf := fun _ => ?_)
          · rw [eK, k1]; exact nI_ge (by omega) (by omega)
          refine kb_11_follows_20 (hi0 := by rw [x1]; exact vp_in_nI (by omega) (by omega)) (hi1 := by rw [x2]; exact vp_in_nI (by omega) (by omega)) (hi2 := by rw [y1]; exact vp_in_nI (by omega) (by omega)) (hi3 := by rw [y2]; exact vp_in_nI (by omega) (by omega)) (kt := fun _ => ?_) (kf := fun z => absurd ?_ z)
          · rw [y1, y2]
            refine kb_11_follows_76 (hi0 := vp_in_nI (by omega) (by omega)) (hi1 := vp_in_nI (by omega) (by omega)) (kt := fun _ => kb_11_follows_108 (k := ?_)) (kf := fun z => absurd ?_ z)
            · rw [nI_1]
              refine ihm (i + 1) (by omega) _ _ (fun k hk => ⟨fun _ => ag _ (hpr k (by omega)).2.2.2, fun _ => ab _ (hpr k (by omega)).2.2.1⟩)
            · rw [eL, nI_clamp (by omega), nI_clamp (by omega), h5 _ p3, h5 _ p4, (am_lb_m _ _).2, (am_lb_m _ _).2, am_b2_le]
              exact fun _ => ab _ p3
          · rw [y1, y2, eL, nI_clamp (by omega), nI_clamp (by omega), h5 _ p3, h5 _ p4, (am_lb_m _ _).1, (am_lb_m _ _).1, am_bI_le]
            exact fun _ => ag _ p4
      refine kb_11_follows_2 (kt := fun z => absurd z (by decide)) (kf := fun _ => kb_11_follows_6 (k := ?_))
      have := pass q 0 (by omega) a3 a4 (fun k hk => absurd hk (Nat.not_lt_zero k))
      rw [nI_0] at this
      exact this
    | succ j ih =>
      intro g b L a2 a3 a4 hj h1 h2 h5 h6
      have pass : ∀ (m i : Nat), i + m = q → ∀ (mo : Bool) (g' b' : Nat → Bool) (L' : Nat → Int32) (a3 a4 : Option Value), mo_Bt q fs sn g0 g' → mo_Bt q sn fs b0 b' → mo_Lb L' P g' b' → (∀ i, P ≤ i → g' i = false ∧ b' i = false) → (mo = false → ∀ k, k < i → (g' (fs k) = true → g' (sn k) = true) ∧ (b' (sn k) = true → b' (fs k) = true)) → (am_cn g P + am_cn b P ≤ am_cn g' P + am_cn b' P) → (mo = true → am_cn g P + am_cn b P + 1 ≤ am_cn g' P + am_cn b' P) → am_T true ya_11_follows d Q 10 [some (.ref (am_oid 16)), some (.int (am_bI mo)), some (.int (nI i)), a3, a4] [] (am_sA σ 16 31 L') := by
        intro m
        induction m with
        | zero =>
          intro i hi mo g' b' L' a3 a4 h1 h2 h5 h6 hcl hm0 hm
          have : i = q := by omega
          subst this
          refine kb_11_follows_10 (kt := fun _ => kb_11_follows_114 (k := ?_)) (kf := fun z => absurd ?_ z)
          · cases mo with
            | false => exact kb_11_follows_2 (kt := fun _ => fin g' b' L' _ _ _ _ _ h1 h2 (fun k hk => (hcl rfl k hk).1) (fun k hk => (hcl rfl k hk).2) h5 h6) (kf := fun z => absurd rfl z)
            | true => exact ih g' b' L' _ _ _ (by have := hm rfl; omega) h1 h2 h5 h6
          · rw [eK, k1]; exact nI_le (Nat.le_refl _) (by omega)
        | succ m ihm =>
          intro i hi mo g' b' L' a3 a4 h1 h2 h5 h6 hcl hm0 hm
          obtain ⟨p1, p2, p3, p4⟩ := hpr i (by omega)
          have x1 : (408 : Int32) + nI i = nI (408 + i) := ofc 408 _ i rfl
          have x2 : (708 : Int32) + nI i = nI (708 + i) := ofc 708 _ i rfl
          have y1 : am_A (am_sA σ 16 31 L') 16 25 (408 + nI i).toNatClampNeg = nI (fs i) := by rw [x1, nI_clamp (by omega), eK]; exact p1
          have y2 : am_A (am_sA σ 16 31 L') 16 25 (708 + nI i).toNatClampNeg = nI (sn i) := by rw [x2, nI_clamp (by omega), eK]; exact p2
          have vf : vp_in (nI (fs i)) 200 := vp_in_nI (by omega) (by omega)
          have vs : vp_in (nI (sn i)) 200 := vp_in_nI (by omega) (by omega)
          -- the second half: bad backwards
          have half : ∀ (mo : Bool) (g' : Nat → Bool) (L' : Nat → Int32), mo_Bt q fs sn g0 g' → mo_Lb L' P g' b' → (∀ i, P ≤ i → g' i = false) → (mo = false → (∀ k, k < i → (g' (fs k) = true → g' (sn k) = true) ∧ (b' (sn k) = true → b' (fs k) = true)) ∧ (g' (fs i) = true → g' (sn i) = true)) → (am_cn g P + am_cn b P ≤ am_cn g' P + am_cn b' P) → (mo = true → am_cn g P + am_cn b P + 1 ≤ am_cn g' P + am_cn b' P) → am_T true ya_11_follows d Q 76 [some (.ref (am_oid 16)), some (.int (am_bI mo)), some (.int (nI i)), some (.int (nI (fs i))), some (.int (nI (sn i)))] [] (am_sA σ 16 31 L') := by
            intro mo g' L' h1 h5 h6g hcl hm0 hm
            refine kb_11_follows_76 (hi0 := vs) (hi1 := vf) (kt := fun z => ?_) (kf := fun z => ?_)
            · rw [eL, nI_clamp (by omega), nI_clamp (by omega), h5 _ p3, h5 _ p4, (am_lb_m _ _).2, (am_lb_m _ _).2, am_b2_le] at z
              refine kb_11_follows_108 (k := ?_)
              rw [nI_1]
              refine ihm (i + 1) (by omega) mo g' b' L' _ _ h1 h2 h5 (fun y hy => ⟨h6g y hy, (h6 y hy).2⟩) (fun e k hk => ?_) hm0 hm
              by_cases c : k = i
              · subst c; exact ⟨(hcl e).2, z⟩
              · exact (hcl e).1 k (by omega)
            · rw [eL, nI_clamp (by omega), nI_clamp (by omega), h5 _ p3, h5 _ p4, (am_lb_m _ _).2, (am_lb_m _ _).2, am_b2_le] at z
              have zb : b' (sn i) = true ∧ b' (fs i) = false := by
                cases e1 : b' (sn i) <;> cases e2 : b' (fs i) <;> simp_all
              refine kb_11_follows_96 (hi0 := vf) (hi1 := vf) (k := kb_11_follows_108 (k := ?_))
              rw [nI_1, nI_clamp (by omega), eL, am_sA_sA]
              have hc := am_cn_or1 (g := b') p3 zb.2
              refine ihm (i + 1) (by omega) true g' (fun j => j == fs i || b' j) _ _ _ h1 (h2.add (by omega) zb.1) (mo_Lb_2 h5 p3) (fun y hy => ⟨h6g y hy, ?_⟩) (fun e => by cases e) (by omega) (fun _ => by omega)
              have : y ≠ fs i := by omega
              simp [this, (h6 y hy).2]
          refine kb_11_follows_10 (kt := fun z => absurd z ?_) (kf := fun _ => ?_)
          · rw [eK, k1]; exact nI_ge (by omega) (by omega)
          refine kb_11_follows_20 (hi0 := by rw [x1]; exact vp_in_nI (by omega) (by omega)) (hi1 := by rw [x2]; exact vp_in_nI (by omega) (by omega)) (hi2 := by rw [y1]; exact vf) (hi3 := by rw [y2]; exact vs) (kt := fun z => ?_) (kf := fun z => ?_)
          · rw [y1, y2, eL, nI_clamp (by omega), nI_clamp (by omega), h5 _ p3, h5 _ p4, (am_lb_m _ _).1, (am_lb_m _ _).1, am_bI_le] at z
            rw [y1, y2]
            exact half mo g' L' h1 h5 (fun y hy => (h6 y hy).1) (fun e => ⟨hcl e, z⟩) hm0 hm
          · rw [y1, y2, eL, nI_clamp (by omega), nI_clamp (by omega), h5 _ p3, h5 _ p4, (am_lb_m _ _).1, (am_lb_m _ _).1, am_bI_le] at z
            have zg : g' (fs i) = true ∧ g' (sn i) = false := by
              cases e1 : g' (fs i) <;> cases e2 : g' (sn i) <;> simp_all
            rw [y1, y2]
            refine kb_11_follows_63 (hi0 := vs) (hi1 := vs) (k := ?_)
            rw [nI_clamp (by omega), eL, am_sA_sA]
            have hc := am_cn_or1 (g := g') p4 zg.2
            refine half true (fun j => j == sn i || g' j) _ (h1.add (by omega) zg.1) (mo_Lb_1 h5 p4) (fun y hy => ?_) (fun e => by cases e) (by omega) (fun _ => by omega)
            have : y ≠ sn i := by omega
            simp [this, (h6 y hy).1]
      refine kb_11_follows_2 (kt := fun z => absurd z (by decide)) (kf := fun _ => kb_11_follows_6 (k := ?_))
      have := pass q 0 (by omega) false g b L a3 a4 h1 h2 h5 h6 (fun _ k hk => absurd hk (Nat.not_lt_zero k)) (Nat.le_refl _) (fun e => by cases e)
      rw [nI_0] at this
      exact this
  refine am_enter rfl (by simp [Value.category]) (Nat.le_of_ble_eq_true rfl) (kb_11_follows_0 (k := ?_))
  have := outer (2 * P) g0 b0 (am_A σ 16 31) none none none (by omega) ⟨fun _ h => h, fun _ h _ => h⟩ ⟨fun _ h => h, fun _ h _ => h⟩ hL hz0
  rw [am_sA_id] at this
  exact this
/-- labels: those that follow from what was told -/
theorem sp_11_labels {d P q : Nat} {st td fs sn : Nat → Nat} {σ : am_St} (hS : mo_Sm σ P q st td fs sn) : am_C true ya_11_labels (d + 1) [.ref (am_oid 16)] σ (fun r τ => r = none ∧ ∃ L : Nat → Int32, τ = am_sA σ 16 31 L ∧ mo_Lb L P (am_clo q fs sn (am_tg td 1 P)) (am_clo q sn fs (am_tg td 2 P)) ∧ ∀ i, P ≤ i → am_clo q fs sn (am_tg td 1 P) i = false ∧ am_clo q sn fs (am_tg td 2 P) i = false) := by
  have hS' := hS
  obtain ⟨hP, hq, k0, k1, hpt, -⟩ := hS'
  have lbt : ∀ t, t < 4 → nI t = am_lb (am_bt 1 (nI t)) (am_bt 2 (nI t)) := by decide +kernel
  have loop : ∀ (j i : Nat), i + j = P → ∀ L : Nat → Int32, (∀ z, z < i → L z = nI (td z)) → am_T true ya_11_labels (d + 1) (fun r τ => r = none ∧ ∃ L : Nat → Int32, τ = am_sA σ 16 31 L ∧ mo_Lb L P (am_clo q fs sn (am_tg td 1 P)) (am_clo q sn fs (am_tg td 2 P)) ∧ ∀ i, P ≤ i → am_clo q fs sn (am_tg td 1 P) i = false ∧ am_clo q sn fs (am_tg td 2 P) i = false) 2 [some (.ref (am_oid 16)), some (.int (nI i))] [] (am_sA σ 16 31 L) := by
    intro j
    induction j with
    | zero =>
      intro i hi L hL
      have : i = P := by omega
      subst this
      have eK : am_A (am_sA σ 16 31 L) 16 25 = am_A σ 16 25 := by rw [am_A_sA, if_neg (by simp)]
      refine kb_11_labels_2 (kt := fun _ => ?_) (kf := fun z => absurd ?_ z)
      · refine kb_11_labels_34 (hC := sp_11_follows (g0 := am_tg td 1 i) (b0 := am_tg td 2 i) (hS.same eK) (fun z hz => ?_) (fun z hz => ?_)) (k := fun r τ hr => ?_)
        · rw [am_A_sA, if_pos ⟨rfl, rfl⟩, hL z hz]
          unfold am_tg
          simp only [decide_eq_true hz, Bool.true_and]
          exact lbt _ (hpt z hz).2.2.2
        · unfold am_tg
          simp [show ¬ z < i by omega]
        · obtain ⟨rfl, L', rfl, h1, h2⟩ := hr
          rw [am_sA_sA]
          exact kb_11_labels_38 ⟨rfl, L', rfl, h1, h2⟩
      · rw [eK, k0]; exact nI_le (Nat.le_refl _) (by omega)
    | succ j ih =>
      intro i hi L hL
      have eK : am_A (am_sA σ 16 31 L) 16 25 = am_A σ 16 25 := by rw [am_A_sA, if_neg (by simp)]
      have x1 : (208 : Int32) + nI i = nI (208 + i) := nI_add 208 i
      refine kb_11_labels_2 (kt := fun z => absurd z ?_) (kf := fun _ => ?_)
      · rw [eK, k0]; exact nI_ge (by omega) (by omega)
      refine kb_11_labels_12 (hi0 := by rw [x1]; exact vp_in_nI (by omega) (by omega)) (hi1 := vp_in_nI (by omega) (by omega)) (k := ?_)
      rw [x1, nI_1, nI_clamp (by omega), nI_clamp (by omega), eK, am_sA_sA, am_A_sA, if_pos ⟨rfl, rfl⟩]
      refine ih (i + 1) (by omega) _ (fun z hz => ?_)
      by_cases c : z = i
      · subst c; rw [upd_s]; exact (hpt z (by omega)).2.2.1
      · rw [upd_n c]; exact hL z (by omega)
  refine am_enter rfl (by simp [Value.category]) (Nat.le_of_ble_eq_true rfl) (kb_11_labels_0 (k := ?_))
  have := loop P 0 (by omega) (am_A σ 16 31) (fun z hz => absurd hz (Nat.not_lt_zero z))
  rw [am_sA_id, nI_0] at this
  exact this
