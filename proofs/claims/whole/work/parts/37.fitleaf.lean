/-! numbers once more -/
theorem nI_mul (a b : Nat) : nI a * nI b = nI (a * b) := (Int32.ofNat_mul a b).symm
theorem nI_sub {a b : Nat} (h : b ≤ a) : nI a - nI b = nI (a - b) := by
  have e : nI a = nI (a - b) + nI b := by rw [nI_add]; congr 1; omega
  rw [e, Int32.add_sub_cancel]
/-! parting a range -/
def am_Pt (e0 e : Nat → Int32) (u v i m P : Nat) (S : Nat → Bool) (pr : Int32 → Bool) : Prop := u ≤ m ∧ m ≤ i ∧ i ≤ v ∧ am_En e u v P S ∧ (∀ j, u ≤ j → j < m → pr (e j) = true) ∧ (∀ j, m ≤ j → j < i → pr (e j) = false) ∧ ∀ j, j < u ∨ v ≤ j → e j = e0 j
theorem am_Pt_f {e0 e : Nat → Int32} {u v i m P : Nat} {S : Nat → Bool} {pr : Int32 → Bool} (h : am_Pt e0 e u v i m P S pr) (hi : i < v) (hp : pr (e i) = false) : am_Pt e0 e u v (i + 1) m P S pr := by
  obtain ⟨h1, h2, h3, h4, h5, h6, h7⟩ := h
  refine ⟨h1, by omega, by omega, h4, h5, fun j c1 c2 => ?_, h7⟩
  rcases Nat.lt_or_ge j i with c | c
  · exact h6 j c1 c
  · have : j = i := by omega
    rw [this]; exact hp
theorem am_Pt_t {e0 e : Nat → Int32} {u v i m P : Nat} {S : Nat → Bool} {pr : Int32 → Bool} (h : am_Pt e0 e u v i m P S pr) (hi : i < v) (hp : pr (e i) = true) : am_Pt e0 (am_sw e i m) u v (i + 1) (m + 1) P S pr := by
  obtain ⟨h1, h2, h3, h4, h5, h6, h7⟩ := h
  refine ⟨by omega, by omega, by omega, am_En_sw h4 (by omega) hi h1 (by omega), fun j c1 c2 => ?_, fun j c1 c2 => ?_, fun j hj => ?_⟩
  · rw [am_sw_at]
    by_cases z : j = m
    · rw [if_pos z]; exact hp
    · rw [if_neg z, if_neg (by omega)]; exact h5 j c1 (by omega)
  · rw [am_sw_at, if_neg (by omega)]
    by_cases z : j = i
    · rw [if_pos z]; exact h6 m (Nat.le_refl _) (by omega)
    · rw [if_neg z]; exact h6 j (by omega) (by omega)
  · rw [am_sw_at, if_neg (by omega), if_neg (by omega)]; exact h7 j hj
theorem am_Pt_0 {e : Nat → Int32} {u v P : Nat} {S : Nat → Bool} (pr : Int32 → Bool) (h : am_En e u v P S) : am_Pt e e u v u u P S pr := ⟨Nat.le_refl _, Nat.le_refl _, h.1, h, fun j c1 c2 => by omega, fun j c1 c2 => by omega, fun _ _ => rfl⟩
theorem am_Pt_end {e0 e : Nat → Int32} {u v m P : Nat} {S β : Nat → Bool} {pr : Int32 → Bool} (hP : P < 2 ^ 31) (h : am_Pt e0 e u v v m P S pr) (hb : ∀ i, i < P → pr (nI i) = β i) : am_En e u m P (fun i => S i && β i) ∧ am_En e m v P (fun i => S i && !β i) := by
  obtain ⟨h1, h2, h3, h4, h5, h6, h7⟩ := h
  exact am_En_part hP h4 h1 h2 (fun j i c1 c2 c3 c4 => by rw [← hb i c4, ← c3]; exact h5 j c1 c2) (fun j i c1 c2 c3 c4 => by rw [← hb i c4, ← c3]; exact h6 j c1 c2)
/-! Fitter.partPoints -/
def am_prB (b : Nat → Int32) (t : Nat) : Int32 → Bool := fun x => bt (b x.toNatClampNeg) t
theorem sp_0_partPoints {d u v P t : Nat} {S : Nat → Bool} {σ : am_St} (hP : P ≤ 200) (ht : t < 16) (hu : am_I σ 5 7 = nI u) (hv : am_I σ 5 8 = nI v) (hv2 : v ≤ 200) (hE : am_En (am_A σ 5 3) u v P S) : am_C false ya_0_partPoints d [.ref (am_oid 5), .int (nI t)] σ (fun r τ => ∃ (m : Nat) (e : Nat → Int32), r = some (.int (nI m)) ∧ τ = am_sA σ 5 3 e ∧ am_Pt (am_A σ 5 3) e u v v m P S (am_prB (am_A σ 5 2) t)) := by
  generalize hQ : (fun (r : Option Value) (τ : am_St) => ∃ (m : Nat) (e : Nat → Int32), r = some (.int (nI m)) ∧ τ = am_sA σ 5 3 e ∧ am_Pt (am_A σ 5 3) e u v v m P S (am_prB (am_A σ 5 2) t)) = Q
  have loop : ∀ (j i : Nat), i + j = v → ∀ (m : Nat) (e : Nat → Int32) (a4 : Option Value), am_Pt (am_A σ 5 3) e u v i m P S (am_prB (am_A σ 5 2) t) → am_T false ya_0_partPoints d Q 10 [some (.ref (am_oid 5)), some (.int (nI t)), some (.int (nI m)), some (.int (nI i)), a4] [] (am_sA σ 5 3 e) := by
    intro j
    induction j with
    | zero =>
      intro i hi m e a4 h
      have : i = v := by omega
      subst this
      refine kb_0_partPoints_10 (kt := fun _ => kb_0_partPoints_70 ?_) (kf := fun c => absurd ?_ c)
      · rw [← hQ]; exact ⟨m, e, rfl, rfl, h⟩
      · show am_I σ 5 8 ≤ nI i
        rw [hv]; exact nI_le (Nat.le_refl _) (by omega)
    | succ j ih =>
      intro i hi m e a4 h
      have hiv : i < v := by omega
      obtain ⟨h1, h2, h3, h4, h5, h6, h7⟩ := id h
      obtain ⟨x, c1, c2, c3⟩ := h4.2.1 i (by omega) hiv
      have vi : vp_in (nI i) 200 := vp_in_nI (by omega) (by omega)
      have eM : am_A (am_sA σ 5 3 e) 5 3 = e := by rw [am_A_sA, if_pos ⟨rfl, rfl⟩]
      have vx : vp_in (am_A (am_sA σ 5 3 e) 5 3 (nI i).toNatClampNeg) 200 := by rw [eM, nI_clamp (by omega), c2]; exact vp_in_nI (by omega) (by omega)
      refine kb_0_partPoints_10 (kt := fun c => absurd c ?_) (kf := fun _ => ?_)
      · show ¬ am_I σ 5 8 ≤ nI i
        rw [hv]; exact nI_ge hiv (by omega)
      · refine kb_0_partPoints_18 (hi0 := vi) (hi1 := vx) (kt := fun c => ?_) (kf := fun c => ?_)
        · have hb : am_prB (am_A σ 5 2) t (e i) = false := by
            rw [eM, nI_clamp (by omega), am_sh1_1 _ (by omega)] at c
            have c' : ¬ bt (am_A σ 5 2 (e i).toNatClampNeg) t = true := c
            unfold am_prB
            simpa using c'
          refine kb_0_partPoints_64 (k := ?_)
          rw [nI_1]
          exact ih (i + 1) (by omega) m e _ (am_Pt_f h hiv hb)
        · have hb : am_prB (am_A σ 5 2) t (e i) = true := by
            rw [eM, nI_clamp (by omega), am_sh1_1 _ (by omega)] at c
            exact c
          have vm : vp_in (nI m) 200 := vp_in_nI (by omega) (by omega)
          refine kb_0_partPoints_41 (hi0 := vm) (hi1 := vi) (hi2 := vm) (k := kb_0_partPoints_64 (k := ?_))
          rw [nI_1, nI_1, eM, nI_clamp (show i < 2 ^ 31 by omega), nI_clamp (show m < 2 ^ 31 by omega), am_sA_sA, am_sA_sA]
          exact ih (i + 1) (by omega) (m + 1) (am_sw e i m) _ (am_Pt_t h hiv hb)
  refine am_enter rfl (by simp [Value.category]) (Nat.le_of_ble_eq_true rfl) (kb_0_partPoints_0 (k := ?_))
  have := loop (v - u) u (by have := hE.1; omega) u (am_A σ 5 3) none (am_Pt_0 _ hE)
  rw [am_sA_id] at this
  rw [hu]
  exact this
/-! Fitter.gatherPairs -/
def am_prP (b : Nat → Int32) (f s : Nat → Nat) (t : Nat) (side : Bool) : Int32 → Bool := fun x => (bt (b (f x.toNatClampNeg)) t == side) && (bt (b (s x.toNatClampNeg)) t == side)
def am_bI (b : Bool) : Int32 := if b = true then 1 else 0
theorem am_bI_inj (a b : Bool) : (am_bI a = am_bI b) = (a = b) := by cases a <;> cases b <;> decide
theorem sp_0_gatherPairs {d o P q t u pt : Nat} {st td fs sn : Nat → Nat} {side : Bool} {S : Nat → Bool} {σ : am_St} (hS : am_Sm σ o P q st td fs sn) (ht : t < 16) (hv : am_I σ 5 10 = nI pt) (hv2 : pt ≤ 300) (hE : am_En (am_A σ 5 4) u pt q S) : am_C false ya_0_gatherPairs d [.ref (am_oid 5), .ref (am_oid o), .int (nI t), .int (am_bI side), .int (nI u)] σ (fun r τ => ∃ (m : Nat) (e : Nat → Int32), r = some (.int (nI m)) ∧ τ = am_sA σ 5 4 e ∧ am_Pt (am_A σ 5 4) e u pt pt m q S (am_prP (am_A σ 5 2) fs sn t side)) := by
  obtain ⟨ho, hP, hq, h4, h5, h6, ⟨-, -, hsn, hab⟩, ⟨-, -, hfs, -⟩, -, -⟩ := hS
  have ho5 : o ≠ 5 := fun e => by rw [e] at ho; exact absurd ho (by decide)
  generalize hQ : (fun (r : Option Value) (τ : am_St) => ∃ (m : Nat) (e : Nat → Int32), r = some (.int (nI m)) ∧ τ = am_sA σ 5 4 e ∧ am_Pt (am_A σ 5 4) e u pt pt m q S (am_prP (am_A σ 5 2) fs sn t side)) = Q
  have loop : ∀ (j i : Nat), i + j = pt → ∀ (m : Nat) (e : Nat → Int32) (a7 a8 a9 : Option Value), am_Pt (am_A σ 5 4) e u pt i m q S (am_prP (am_A σ 5 2) fs sn t side) → am_T false ya_0_gatherPairs d Q 8 [some (.ref (am_oid 5)), some (.ref (am_oid o)), some (.int (nI t)), some (.int (am_bI side)), some (.int (nI u)), some (.int (nI m)), some (.int (nI i)), a7, a8, a9] [] (am_sA σ 5 4 e) := by
    intro j
    induction j with
    | zero =>
      intro i hi m e a7 a8 a9 h
      have : i = pt := by omega
      subst this
      refine kb_0_gatherPairs_8 (kt := fun _ => kb_0_gatherPairs_106 ?_) (kf := fun c => absurd ?_ c)
      · rw [← hQ]; exact ⟨m, e, rfl, rfl, h⟩
      · show am_I σ 5 10 ≤ nI i
        rw [hv]; exact nI_le (Nat.le_refl _) (by omega)
    | succ j ih =>
      intro i hi m e a7 a8 a9 h
      have hiv : i < pt := by omega
      obtain ⟨h1, h2, h3, h4', h5', h6', h7⟩ := id h
      obtain ⟨x, c1, c2, c3⟩ := h4'.2.1 i (by omega) hiv
      have vi : vp_in (nI i) 300 := vp_in_nI (by omega) (by omega)
      have eM : am_A (am_sA σ 5 4 e) 5 4 = e := by rw [am_A_sA, if_pos ⟨rfl, rfl⟩]
      have eF : am_A (am_sA σ 5 4 e) o 4 = am_A σ o 4 := by rw [am_A_sA, if_neg (fun h => ho5 h.2)]
      have eS : am_A (am_sA σ 5 4 e) o 5 = am_A σ o 5 := by rw [am_A_sA, if_neg (by simp)]
      have eB : am_A (am_sA σ 5 4 e) 5 2 = am_A σ 5 2 := by rw [am_A_sA, if_neg (by simp)]
      have e1 : am_A (am_sA σ 5 4 e) 5 4 (nI i).toNatClampNeg = nI x := by rw [eM, nI_clamp (by omega), c2]
      have e2 : am_A (am_sA σ 5 4 e) o 4 (nI x).toNatClampNeg = nI (fs x) := by rw [eF, nI_clamp (by omega)]; exact hfs x c1
      have e3 : am_A (am_sA σ 5 4 e) o 5 (nI x).toNatClampNeg = nI (sn x) := by rw [eS, nI_clamp (by omega)]; exact hsn x c1
      have hfx := hab x c1
      have vx : vp_in (nI x) 300 := vp_in_nI (by omega) (by omega)
      have vf : vp_in (nI (fs x)) 200 := vp_in_nI (by omega) (by omega)
      have vs : vp_in (nI (sn x)) 200 := vp_in_nI (by omega) (by omega)
      have p1 : ((am_A (am_sA σ 5 4 e) 5 2 (nI (fs x)).toNatClampNeg >>> (nI t &&& 31)) &&& 1) = am_bI (bt (am_A σ 5 2 (fs x)) t) := by rw [eB, nI_clamp (by omega)]; exact am_sh1 _ (by omega)
      have p2 : ((am_A (am_sA σ 5 4 e) 5 2 (nI (sn x)).toNatClampNeg >>> (nI t &&& 31)) &&& 1) = am_bI (bt (am_A σ 5 2 (sn x)) t) := by rw [eB, nI_clamp (by omega)]; exact am_sh1 _ (by omega)
      have hpr : am_prP (am_A σ 5 2) fs sn t side (e i) = ((bt (am_A σ 5 2 (fs x)) t == side) && (bt (am_A σ 5 2 (sn x)) t == side)) := by unfold am_prP; rw [c2, nI_clamp (by omega)]
      have skip : am_prP (am_A σ 5 2) fs sn t side (e i) = false → ∀ (b7 b8 b9 : Option Value), am_T false ya_0_gatherPairs d Q 100 [some (.ref (am_oid 5)), some (.ref (am_oid o)), some (.int (nI t)), some (.int (am_bI side)), some (.int (nI u)), some (.int (nI m)), some (.int (nI i)), b7, b8, b9] [] (am_sA σ 5 4 e) := by
        intro hf b7 b8 b9
        refine kb_0_gatherPairs_100 (k := ?_)
        rw [nI_1]
        exact ih (i + 1) (by omega) m e _ _ _ (am_Pt_f h hiv hf)
      refine kb_0_gatherPairs_8 (kt := fun c => absurd c ?_) (kf := fun _ => ?_)
      · show ¬ am_I σ 5 10 ≤ nI i
        rw [hv]; exact nI_ge hiv (by omega)
      · refine kb_0_gatherPairs_17 (hi0 := vi) (hi1 := by rw [e1]; exact vx) (hi2 := by rw [e1, e2]; exact vf) (hi3 := by rw [e1]; exact vx) (hi4 := by rw [e1, e3]; exact vs) (kt := fun c => ?_) (kf := fun c => ?_)
        · rw [e1, e2, p1, am_bI_inj] at c
          exact skip (by rw [hpr]; simp [c]) _ _ _
        · rw [e1, e2, p1, am_bI_inj] at c
          rw [e1, e2, e3, p1, p2]
          refine kb_0_gatherPairs_68 (kt := fun c2 => ?_) (kf := fun c2 => ?_)
          · rw [am_bI_inj] at c2
            exact skip (by rw [hpr]; simp [c2]) _ _ _
          · rw [am_bI_inj] at c2
            have hb : am_prP (am_A σ 5 2) fs sn t side (e i) = true := by rw [hpr]; simp [c, c2]
            have vm : vp_in (nI m) 300 := vp_in_nI (by omega) (by omega)
            refine kb_0_gatherPairs_74 (hi0 := vm) (hi1 := vi) (hi2 := vm) (k := kb_0_gatherPairs_100 (k := ?_))
            rw [nI_1, nI_1, eM, nI_clamp (show i < 2 ^ 31 by omega), nI_clamp (show m < 2 ^ 31 by omega), am_sA_sA, am_sA_sA]
            have := ih (i + 1) (by omega) (m + 1) (am_sw e i m) (some (.int (nI x))) (some (.int (am_bI (bt (am_A σ 5 2 (fs x)) t)))) (some (.int (am_bI (bt (am_A σ 5 2 (sn x)) t)))) (am_Pt_t h hiv hb)
            unfold am_sw at this
            rw [show e i = nI x from by assumption] at this
            exact this
  refine am_enter rfl (by simp [Value.category]) (Nat.le_of_ble_eq_true rfl) (kb_0_gatherPairs_0 (k := ?_))
  have := loop (pt - u) u (by have := hE.1; omega) u (am_A σ 5 4) none none none (am_Pt_0 _ hE)
  rw [am_sA_id] at this
  exact this
