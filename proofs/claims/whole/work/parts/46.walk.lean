/-! trees that a fitting makes: their pointers, their depths; walking down a tree -/
def tr_ok (nd : Nat → Nat → Int32) (n i : Nat) : Prop := ∃ dd, dd ≤ 16 ∧ nd i 5 = nI dd ∧ (nd i 0 = 0 ∨ nd i 0 = 1 ∨ (nd i 0 = 2 ∧ ∃ t y m, t < 16 ∧ nd i 1 = nI t ∧ nd i 2 = nI y ∧ nd i 3 = nI m ∧ i < y ∧ y < n ∧ i < m ∧ m < n ∧ nd y 5 = nI (dd + 1) ∧ nd m 5 = nI (dd + 1)))
theorem tr_ok.more {nd nd' : Nat → Nat → Int32} {n n' i : Nat} (h : tr_ok nd n i) (hn : n ≤ n') (hi : ∀ f, nd' i f = nd i f) (h5 : ∀ j, i < j → j < n → nd' j 5 = nd j 5) : tr_ok nd' n' i := by
  obtain ⟨dd, h1, h2, h3⟩ := h
  refine ⟨dd, h1, by rw [hi]; exact h2, ?_⟩
  rcases h3 with h3 | h3 | ⟨h3, t, y, m, g1, g2, g3, g4, g5, g6, g7, g8, g9, g10⟩
  · exact Or.inl (by rw [hi]; exact h3)
  · exact Or.inr (Or.inl (by rw [hi]; exact h3))
  · exact Or.inr (Or.inr ⟨by rw [hi]; exact h3, t, y, m, g1, by rw [hi]; exact g2, by rw [hi]; exact g3, by rw [hi]; exact g4, g5, by omega, g7, by omega, by rw [h5 y g5 g6]; exact g9, by rw [h5 m g7 g8]; exact g10⟩)
/-- what a fitting leaves of the nodes before, and what it makes -/
theorem ft_F_tr {P q T : Nat} {fs sn : Nat → Nat} {bit : Nat → Nat → Bool} {al : Nat → Bool} {care : Bool} (hT : T ≤ 16) : ∀ (f : Nat) (S : Nat → Bool) (par : Option Nat) (sd : Bool) (s s' : ft_Sg) (dep : Nat), ft_F P q T fs sn bit al care f S par sd s = some s' → (∀ p, par = some p → p < s.2.2.1) → ft_dp s.2.2.2 par = nI dep → dep + f = 17 →
    (∀ i, i < s.2.2.1 → ∀ g, s'.2.2.2 i g = ft_sp s.2.2.2 par sd s.2.2.1 i g) ∧ (∀ i, s.2.2.1 ≤ i → i < s'.2.2.1 → tr_ok s'.2.2.2 s'.2.2.1 i) ∧ s'.2.2.2 s.2.2.1 5 = nI dep := by
  intro f
  induction f with
  | zero => intro S par sd s s' dep h; cases h
  | succ f ih =>
    intro S par sd s s' dep h hp hd hf
    obtain ⟨g0, b0, n, nd0⟩ := s
    dsimp only at hp hd ⊢
    unfold ft_F at h
    dsimp only at h
    split at h
    · split at h
      · cases h
      · rename_i p hb
        split at h
        · cases h
        · rename_i s2 h2
          obtain ⟨hpT, -, hc⟩ := ft_bst_spec _ _ _ (t := p.1) (c := p.2) hb
          obtain ⟨a1, -⟩ := ft_F_n _ _ _ _ _ _ h2
          obtain ⟨b1, -⟩ := ft_F_n _ _ _ _ _ _ h
          simp only at a1
          obtain ⟨nd1, hnd1⟩ : ∃ nd1, nd1 = ft_nw (ft_sp nd0 par sd n) n 2 (nI p.1) (nI (am_cn S P)) (ft_dp nd0 par) (ft_pI par) := ⟨_, rfl⟩
          rw [← hnd1] at h2
          have d1 : nd1 n 5 = nI dep := by rw [hnd1]; simp [ft_nw]; exact hd
          have k1 : nd1 n 0 = 2 := by rw [hnd1]; simp [ft_nw]
          have t1 : nd1 n 1 = nI p.1 := by rw [hnd1]; simp [ft_nw]
          have o1 : ∀ i, i < n → ∀ g, nd1 i g = ft_sp nd0 par sd n i g := fun i hi g => by rw [hnd1]; unfold ft_nw; rw [if_neg (by omega)]
          obtain ⟨u1, u2, u3⟩ := ih _ _ _ _ _ (dep + 1) h2 (fun z hz => by injection hz with hz; simp only; omega) (by show nd1 n 5 + 1 = _; rw [d1, nI_1]) (by omega)
          simp only at u1 u2 u3
          have e2 : ∀ i g, i < n + 1 → ¬ (i = n ∧ g = 2) → s2.2.2.2 i g = nd1 i g := fun i g hi hg => by
            rw [u1 i hi g]; show ft_st nd1 n 2 _ i g = _; unfold ft_st; rw [if_neg hg]
          have e22 : s2.2.2.2 n 2 = nI (n + 1) := by
            rw [u1 n (by omega) 2]; show ft_st nd1 n 2 _ n 2 = _; unfold ft_st; rw [if_pos ⟨rfl, rfl⟩]
          obtain ⟨v1, v2, v3⟩ := ih _ _ _ _ _ (dep + 1) h (fun z hz => by injection hz with hz; omega) (by show s2.2.2.2 n 5 + 1 = _; rw [e2 n 5 (by omega) (by simp), d1, nI_1]) (by omega)
          have e3 : ∀ i g, i < s2.2.2.1 → ¬ (i = n ∧ g = 3) → s'.2.2.2 i g = s2.2.2.2 i g := fun i g hi hg => by
            rw [v1 i hi g]; show ft_st s2.2.2.2 n 3 _ i g = _; unfold ft_st; rw [if_neg hg]
          have e33 : s'.2.2.2 n 3 = nI s2.2.2.1 := by
            rw [v1 n (by omega) 3]; show ft_st s2.2.2.2 n 3 _ n 3 = _; unfold ft_st; rw [if_pos ⟨rfl, rfl⟩]
          refine ⟨fun i hi g => ?_, fun i hi hi2 => ?_, ?_⟩
          · rw [e3 i g (by omega) (by omega), e2 i g (by omega) (by omega)]; exact o1 i hi g
          · by_cases c : i = n
            · subst c
              have l1 := ft_cs_lt (bit := bit) hpT hc
              refine ⟨dep, by omega, by rw [e3 i 5 (by omega) (by simp), e2 i 5 (by omega) (by simp)]; exact d1, Or.inr (Or.inr ⟨by rw [e3 i 0 (by omega) (by simp), e2 i 0 (by omega) (by simp)]; exact k1, p.1, i + 1, s2.2.2.1, by omega, by rw [e3 i 1 (by omega) (by simp), e2 i 1 (by omega) (by simp)]; exact t1, by rw [e3 i 2 (by omega) (by simp)]; exact e22, e33, by omega, by omega, by omega, by omega, ?_, v3⟩)⟩
              rw [e3 (i + 1) 5 (by omega) (by simp)]; exact u3
            · rcases Nat.lt_or_ge i s2.2.2.1 with z | z
              · exact (u2 i (by omega) z).more (by omega) (fun g => e3 i g z (fun y => c y.1)) (fun j hj1 hj2 => e3 j 5 hj2 (by simp))
              · exact v2 i z hi2
          · rw [e3 n 5 (by omega) (by simp), e2 n 5 (by omega) (by simp)]; exact d1
    · rename_i hk
      injection h with h
      subst h
      simp only
      refine ⟨fun i hi g => ?_, fun i hi hi2 => ?_, ?_⟩
      · unfold ft_nw; rw [if_neg (by omega)]
      · have : i = n := by omega
        subst this
        refine ⟨dep, by omega, by simp [ft_nw]; exact hd, ?_⟩
        have e0 : ft_nw (ft_sp nd0 par sd i) i (ft_kd care (ft_no P S b0) (ft_no P S g0)) (-2) (nI (am_cn S P)) (ft_dp nd0 par) (ft_pI par) i 0 = ft_kd care (ft_no P S b0) (ft_no P S g0) := by simp [ft_nw]
        rw [e0]
        rcases ft_kd_cases care (ft_no P S b0) (ft_no P S g0) with z | z | z
        · exact Or.inl z
        · exact Or.inr (Or.inl z)
        · exact absurd z hk
      · simp [ft_nw]; exact hd
def tr_al (n : Nat) (nd : Nat → Nat → Int32) : Prop := ∀ i, i < n → tr_ok nd n i
/-- the node below: by the bit of its test -/
def tr_dn (nd : Nat → Nat → Int32) (x : Int32) (i : Nat) : Nat := if bt x (nd i 1).toNatClampNeg = true then (nd i 2).toNatClampNeg else (nd i 3).toNatClampNeg
/-- whether the walk down ends at a leaf that is so -/
def tr_wk (nd : Nat → Nat → Int32) (x : Int32) : Nat → Nat → Bool
  | 0, _ => false
  | f + 1, i => if nd i 0 = 2 then tr_wk nd x f (tr_dn nd x i) else decide (nd i 0 = 1)
def tr_hd (n : Nat) (nd : Nat → Nat → Int32) (x : Int32) : Bool := decide (0 < n) && tr_wk nd x 17 0
theorem tr_dn_ok {nd : Nat → Nat → Int32} {n i : Nat} {x : Int32} (h : tr_ok nd n i) (hn : n ≤ 400) (h2 : nd i 0 = 2) : i < tr_dn nd x i ∧ tr_dn nd x i < n := by
  obtain ⟨dd, -, -, h3⟩ := h
  rcases h3 with h3 | h3 | ⟨-, t, y, m, g1, g2, g3, g4, g5, g6, g7, g8, -, -⟩
  · rw [h3] at h2; exact absurd h2 (by decide)
  · rw [h3] at h2; exact absurd h2 (by decide)
  · unfold tr_dn
    rw [g3, g4, nI_clamp (by omega), nI_clamp (by omega)]
    split <;> omega
theorem sp_8_below {d t n i : Nat} {nd : Nat → Nat → Int32} {x : Int32} {σ : am_St} (h : am_Tr σ t n nd) (hi : i < n) (ho : tr_ok nd n i) (h2 : nd i 0 = 2) : am_C false ya_8_below d [.ref (am_oid t), .int (nI i), .int x] σ (fun r τ => τ = σ ∧ r = some (.int (nI (tr_dn nd x i)))) := by
  obtain ⟨ht, hn, hI, hA⟩ := h
  obtain ⟨dd, -, -, h3⟩ := ho
  rcases h3 with h3 | h3 | ⟨-, tt, y, m, g1, g2, g3, g4, g5, g6, g7, g8, -, -⟩
  · rw [h3] at h2; exact absurd h2 (by decide)
  · rw [h3] at h2; exact absurd h2 (by decide)
  · have v : vp_in (nI i) 400 := vp_in_nI (by omega) (by omega)
    have a1 : am_A σ t 2 i = nd i 1 := hA i hi 1 (by decide)
    have a2 : am_A σ t 3 i = nd i 2 := hA i hi 2 (by decide)
    have a3 : am_A σ t 4 i = nd i 3 := hA i hi 3 (by decide)
    refine am_enter rfl (by simp [Value.category]) (Nat.le_of_ble_eq_true rfl) ?_
    refine kb_8_below_0 (hi0 := v) (kt := fun c => kb_8_below_23 (hi0 := v) (k := kb_8_below_29 ⟨rfl, ?_⟩)) (kf := fun c => kb_8_below_14 (hi0 := v) (k := kb_8_below_29 ⟨rfl, ?_⟩))
    · rw [nI_clamp (by omega), a1, g2, am_sh1_1 _ (by omega)] at c
      rw [nI_clamp (by omega), a3, g4]
      unfold tr_dn
      rw [g2, nI_clamp (show tt < 2 ^ 31 by omega), if_neg c, g4, nI_clamp (by omega)]
    · rw [nI_clamp (by omega), a1, g2, am_sh1_1 _ (by omega)] at c
      rw [nI_clamp (by omega), a2, g3]
      unfold tr_dn
      rw [g2, nI_clamp (show tt < 2 ^ 31 by omega), if_pos c, g3, nI_clamp (by omega)]
theorem sp_8_accepts {d t n : Nat} {nd : Nat → Nat → Int32} {x : Int32} {σ : am_St} (h : am_Tr σ t n nd) (ho : tr_al n nd) : am_C false ya_8_accepts (d + 1) [.ref (am_oid t), .int x] σ (fun r τ => τ = σ ∧ r = some (.int (am_bI (tr_hd n nd x)))) := by
  have h' := h
  obtain ⟨ht, hn, hI, hA⟩ := h'
  have e16 : (16 : Int32) = nI 16 := by decide
  have loop : ∀ (f k i : Nat), k + f = 17 → i < n → am_T false ya_8_accepts (d + 1) (fun r τ => τ = σ ∧ r = some (.int (am_bI (tr_wk nd x f i)))) 15 [some (.ref (am_oid t)), some (.int x), some (.int (nI i)), some (.int (nI k))] [] σ := by
    intro f
    induction f with
    | zero =>
      intro k i hk hi
      refine kb_8_accepts_15 (kt := fun _ => kb_8_accepts_64 ⟨rfl, rfl⟩) (kf := fun z => absurd ?_ z)
      rw [e16]; exact nI_lt (by omega) (by omega)
    | succ f ih =>
      intro k i hk hi
      have v : vp_in (nI i) 400 := vp_in_nI (by omega) (by omega)
      have a0 : am_A σ t 1 i = nd i 0 := hA i hi 0 (by decide)
      refine kb_8_accepts_15 (kt := fun z => absurd z ?_) (kf := fun _ => ?_)
      · rw [e16]; exact nI_nlt (by omega) (by omega)
      refine kb_8_accepts_21 (kt := fun z => absurd z (nI_pos (by omega))) (kf := fun _ => ?_)
      refine kb_8_accepts_25 (hi0 := v) (kt := fun z => ?_) (kf := fun z => ?_)
      · rw [nI_clamp (by omega), a0] at z
        refine kb_8_accepts_51 (hC := sp_8_below h hi (ho i hi) z) (k := fun r τ hr => ?_)
        obtain ⟨rfl, rfl⟩ := hr
        refine kb_8_accepts_57 (k := ?_)
        rw [nI_1]
        have := ih (k + 1) (tr_dn nd x i) (by omega) (tr_dn_ok (ho i hi) hn z).2
        have e : tr_wk nd x (f + 1) i = tr_wk nd x f (tr_dn nd x i) := by
          show (if nd i 0 = 2 then _ else _) = _
          rw [if_pos z]
        rw [e]
        exact this
      · rw [nI_clamp (by omega), a0] at z
        have e : tr_wk nd x (f + 1) i = decide (nd i 0 = 1) := by
          show (if nd i 0 = 2 then _ else _) = _
          rw [if_neg z]
        rw [e]
        refine kb_8_accepts_35 (hi0 := v) (kt := fun y => ?_) (kf := fun y => ?_)
        · rw [nI_clamp (by omega), a0] at y
          refine kb_8_accepts_49 (k := kb_8_accepts_50 (hb0 := rfl) (hq := ⟨rfl, ?_⟩))
          rw [decide_eq_false y]; rfl
        · rw [nI_clamp (by omega), a0] at y
          refine kb_8_accepts_45 (k := kb_8_accepts_50 (hb0 := rfl) (hq := ⟨rfl, ?_⟩))
          rw [decide_eq_true y]; rfl
  refine am_enter rfl (by simp [Value.category]) (Nat.le_of_ble_eq_true rfl) ?_
  by_cases c : 0 < n
  · refine kb_8_accepts_0 (kt := fun z => absurd z ?_) (kf := fun _ => kb_8_accepts_7 (k := kb_8_accepts_12 (k := ?_)))
    · rw [hI]; exact nI_nle c (by omega)
    · have e : tr_hd n nd x = tr_wk nd x 17 0 := by unfold tr_hd; simp [c]
      rw [e]
      exact loop 17 0 0 (by omega) c
  · have e : tr_hd n nd x = false := by unfold tr_hd; simp [c]
    rw [e]
    have hn0 : n = 0 := by omega
    refine kb_8_accepts_0 (kt := fun _ => kb_8_accepts_11 (k := kb_8_accepts_12 (k := ?_))) (kf := fun z => absurd ?_ z)
    · refine kb_8_accepts_15 (kt := fun z => absurd z (by decide)) (kf := fun _ => ?_)
      exact kb_8_accepts_21 (kt := fun _ => kb_8_accepts_64 ⟨rfl, rfl⟩) (kf := fun z => absurd am_neg1 z)
    · rw [hI, hn0, nI_0]; exact Int32.le_refl 0
