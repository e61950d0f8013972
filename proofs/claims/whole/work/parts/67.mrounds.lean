/-! THE REFERENCE: isUnsafe, isFitted, round, rounds -/
section MROUND
variable {d N K T : Nat} {order care : Bool} {al : Nat → Bool} {tb : Nat → Int32} {fl : Nat → Nat → Bool} {nx : Nat → Nat → Option Nat} {σ : am_St}
theorem sp_11_isUnsafe {P q : Nat} {st td fs sn : Nat → Nat} (hS : mo_Sm σ P q st td fs sn) : am_C true ya_11_isUnsafe (d + 2) [.ref (am_oid 16)] σ (fun r τ => r = some (.int (am_bI (lr_us P td (am_clo q fs sn (am_tg td 1 P))))) ∧ ∃ L : Nat → Int32, τ = am_sA σ 16 31 L) := by
  obtain ⟨g, hg⟩ : ∃ g, g = am_clo q fs sn (am_tg td 1 P) := ⟨_, rfl⟩
  rw [← hg]
  have hP := hS.1
  refine am_enter rfl (by simp [Value.category]) (Nat.le_of_ble_eq_true rfl) ?_
  refine kb_11_isUnsafe_0 (hC := sp_11_labels hS) (k := fun r τ hr => ?_)
  obtain ⟨rfl, L, hτ, hL, -⟩ := hr
  rw [← hg] at hL
  have eK : am_A τ 16 25 = am_A σ 16 25 := by rw [hτ, am_A_sA, if_neg (by simp)]
  have eL : am_A τ 16 31 = L := by rw [hτ, am_A_sA, if_pos ⟨rfl, rfl⟩]
  obtain ⟨-, -, k0, -, hpt, -⟩ := hS
  have loop : ∀ (j i : Nat), i + j = P → (∀ z, z < i → (am_bt 2 (nI (td z)) && g z) = false) → am_T true ya_11_isUnsafe (d + 2) (fun r τ => r = some (.int (am_bI (lr_us P td g))) ∧ ∃ L : Nat → Int32, τ = am_sA σ 16 31 L) 6 [some (.ref (am_oid 16)), some (.int (nI i))] [] τ := by
    intro j
    induction j with
    | zero =>
      intro i hi h
      have : i = P := by omega
      subst this
      refine kb_11_isUnsafe_6 (kt := fun _ => kb_11_isUnsafe_50 ⟨?_, L, hτ⟩) (kf := fun z => absurd ?_ z)
      · unfold lr_us
        rw [am_cn_zero' h]; rfl
      · rw [eK, k0]; exact nI_le (by omega) (by omega)
    | succ j ih =>
      intro i hi h
      obtain ⟨-, -, p3, p4⟩ := hpt i (by omega)
      have x1 : (208 : Int32) + nI i = nI (208 + i) := nI_add 208 i
      have y1 : am_A τ 16 25 ((208 : Int32) + nI i).toNatClampNeg = nI (td i) := by rw [x1, nI_clamp (by omega), eK]; exact p3
      have next : (am_bt 2 (nI (td i)) && g i) = false → am_T true ya_11_isUnsafe (d + 2) (fun r τ => r = some (.int (am_bI (lr_us P td g))) ∧ ∃ L : Nat → Int32, τ = am_sA σ 16 31 L) 44 [some (.ref (am_oid 16)), some (.int (nI i))] [] τ := fun hz => by
        refine kb_11_isUnsafe_44 (k := ?_)
        rw [nI_1]
        refine ih (i + 1) (by omega) (fun z hz' => ?_)
        by_cases e : z = i
        · rw [e]; exact hz
        · exact h z (by omega)
      refine kb_11_isUnsafe_6 (kt := fun z => absurd z ?_) (kf := fun _ => ?_)
      · rw [eK, k0]; exact nI_ge (by omega) (by omega)
      refine kb_11_isUnsafe_16 (hi0 := by rw [x1]; exact vp_in_nI (by omega) (by omega)) (kt := fun z => ?_) (kf := fun z => ?_)
      · rw [y1, am_bt_0] at z
        exact next (by rw [z]; rfl)
      · rw [y1, am_bt_0] at z
        have z' : am_bt 2 (nI (td i)) = true := by simpa using z
        refine kb_11_isUnsafe_31 (hi0 := vp_in_nI (by omega) (by omega)) (kt := fun y => ?_) (kf := fun y => ?_)
        · rw [nI_clamp (by omega), eL, hL i (by omega), (am_lb_and _ _).2] at y
          exact next (by rw [y]; simp)
        · rw [nI_clamp (by omega), eL, hL i (by omega), (am_lb_and _ _).2] at y
          have y' : g i = true := by simpa using y
          refine kb_11_isUnsafe_42 ⟨?_, L, hτ⟩
          have : (am_cn (fun i => am_bt 2 (nI (td i)) && g i) P == 0) = false := by
            cases hc : (am_cn (fun i => am_bt 2 (nI (td i)) && g i) P == 0)
            · rfl
            · have := am_cn_zero (eq_of_beq hc) i (by omega)
              simp [z', y'] at this
          unfold lr_us
          rw [this]; rfl
  refine kb_11_isUnsafe_4 (k := ?_)
  have := loop P 0 (by omega) (fun z hz => absurd hz (Nat.not_lt_zero z))
  rw [nI_0] at this
  exact this
theorem sp_11_isFitted {y : lr_T} (h : mo_C σ y care order al T N) (hW : mo_Wo σ N K T tb fl nx) : am_C true ya_11_isFitted (d + 21) [.ref (am_oid 16)] σ (fun r τ => mo_RF σ τ ∧ (lr_fit T tb al care y.1 = none → r = some (.int 0) ∧ mo_C τ y care order al T N) ∧ ∀ s, lr_fit T tb al care y.1 = some s → r = some (.int 1) ∧ mo_C τ (y.1, (s.2.2.1, s.2.2.2), y.2.2) care order al T N) := by
  have h' := h
  obtain ⟨hX, hnd, g4, g3, g5, g6, g7, gc, go, ga⟩ := h'
  have hX' := hX
  obtain ⟨hS, hst, hpo⟩ := hX'
  obtain ⟨w1, w2, w3, w4, w5, w6, w7, w8⟩ := hW
  have hP := hS.1
  generalize hQ : (fun (r : Option Value) (τ : am_St) => mo_RF σ τ ∧ (lr_fit T tb al care y.1 = none → r = some (.int 0) ∧ mo_C τ y care order al T N) ∧ ∀ s, lr_fit T tb al care y.1 = some s → r = some (.int 1) ∧ mo_C τ (y.1, (s.2.2.1, s.2.2.2), y.2.2) care order al T N) = Q
  refine am_enter rfl (by simp [Value.category]) (Nat.le_of_ble_eq_true rfl) ?_
  refine kb_11_isFitted_0 (hC := sp_11_labels hS) (k := fun r τ hr => ?_)
  obtain ⟨rfl, L, hτ, hL, hz⟩ := hr
  refine kb_11_isFitted_4 (k := ?_)
  have k0 : am_A τ 16 25 0 = nI y.1.1 := by rw [hτ, am_A_sA, if_neg (by simp)]; exact hS.2.2.1
  rw [k0]
  obtain ⟨τ0, hτ0⟩ : ∃ τ0, τ0 = am_sI τ 16 33 0 := ⟨_, rfl⟩
  rw [← hτ0]
  have fr0 : mo_FF σ τ0 := by rw [hτ0, hτ]; exact (mo_Fr.rf.sA (by rfl) _).sI (by rfl) _
  have l0 : am_A τ0 16 31 = L := by rw [hτ0, am_A_sI, hτ, am_A_sA, if_pos ⟨rfl, rfl⟩]
  have i0 : am_I τ0 16 33 = nI 0 := by rw [hτ0, am_I_sI, if_pos ⟨rfl, rfl⟩]; exact nI_0.symm
  -- a frame of the fitting is one of the round
  have wk : ∀ a b : am_St, mo_FF a b → mo_RF a b := fun a b hf => ⟨hf.1, fun k hk => hf.2.1 k (by
    cases c : ([31, 32, 34, 35] : List Nat).contains k
    · rfl
    · simp at c hk; omega), hf.2.2⟩
  have loop : ∀ (j i : Nat), i + j = y.1.1 → ∀ e : Nat → Int32, (∀ z, z < i → e z = nI z) → am_T true ya_11_isFitted (d + 21) Q 18 [some (.ref (am_oid 16)), some (.int (nI y.1.1)), some (.int (nI i))] [] (am_sA τ0 16 34 e) := by
    intro j
    induction j with
    | zero =>
      intro i hi e he
      have : i = y.1.1 := by omega
      subst this
      refine kb_11_isFitted_18 (kt := fun _ => ?_) (kf := fun z => absurd (nI_le (by omega) (by omega)) z)
      obtain ⟨τ1, hτ1⟩ : ∃ τ1, τ1 = am_sA τ0 16 34 e := ⟨_, rfl⟩
      rw [← hτ1]
      have fr1 : mo_FF σ τ1 := by rw [hτ1]; exact fr0.sA (by rfl) _
      have hJ0 : mo_J σ y.1.1 y.1.2.1 T y.1.2.2.1 y.1.2.2.2.1 y.1.2.2.2.2.1 y.1.2.2.2.2.2 (fun i => am_A σ 16 18 (y.1.2.2.1 i)) al care := ⟨hS, fun _ => rfl, w6, ga, gc⟩
      have hJ1 := hJ0.same fr1
      have hG1 : mo_G τ1 y.1.1 y.1.2.1 y.1.2.2.2.2.1 y.1.2.2.2.2.2 (lr_g y.1) (lr_b y.1) 0 := ⟨by rw [hτ1, am_A_sA, if_neg (by simp), l0]; exact hL, hz, (am_clo_ls _ _ _ _).2.1, (am_clo_ls _ _ _ _).2.1, by rw [hτ1, am_I_sA]; exact i0⟩
      have hE : am_En (am_A τ1 16 34) 0 y.1.1 y.1.1 (ft_all y.1.1) := ft_all_En (by omega) (by rw [hτ1, am_A_sA, if_pos ⟨rfl, rfl⟩]; exact he)
      have hcn := am_cn_le (ft_all y.1.1) y.1.1
      have C := sp_11_fits (d := d) w3 17 (ft_all y.1.1) 0 y.1.1 0 0 none true (lr_g y.1) (lr_b y.1) (fun _ _ => 0) τ1 hJ1 hG1 hE hP (fun _ z => by cases z) (by omega) (by omega) (by omega) nI_0.symm
      have eF : ft_F y.1.1 y.1.2.1 T y.1.2.2.2.2.1 y.1.2.2.2.2.2 (fun i t => bt (am_A σ 16 18 (y.1.2.2.1 i)) t) al care 17 (ft_all y.1.1) none true (lr_g y.1, lr_b y.1, 0, fun _ _ => 0) = lr_fit T tb al care y.1 := by
        unfold lr_fit
        exact ft_F_congr (fun k hk => ⟨(hS.2.2.2.2.2 k hk).2.2.1, (hS.2.2.2.2.2 k hk).2.2.2⟩) (fun i t hi => by rw [(w7 _ (hst i hi)).1]) 17 _ none true _ (fun i hi => by simpa [ft_all] using hi)
      rw [eF] at C
      rw [nI_0] at C
      refine kb_11_isFitted_36 (hC := C) (k := fun r τ2 hr => ?_)
      obtain ⟨fr2, n2, s2⟩ := hr
      have fr2' := fr1.tr fr2
      cases hF : lr_fit T tb al care y.1 with
      | none =>
        rw [n2 hF]
        refine kb_11_isFitted_43 (kt := fun z => absurd rfl z) (kf := fun _ => kb_11_isFitted_47 ?_)
        rw [← hQ]
        have e25 : am_A τ2 16 25 = am_A σ 16 25 := fr2'.2.1 25 rfl
        refine ⟨wk _ _ fr2', fun _ => ⟨rfl, h.chg (hX.same (fun j _ => by rw [e25]) (fr2'.2.1 27 rfl)) rfl (fun j _ => by rw [e25]) (wk _ _ fr2') ?_ ?_ ?_ ?_ ?_⟩, fun s hs => by rw [hF] at hs; cases hs⟩
        · rw [e25]; exact g4
        · rw [e25]; exact g3
        · rw [e25]; exact g5
        · rw [e25]; exact g6
        · rw [e25]; exact g7
      | some s =>
        obtain ⟨r2, hG2, c2, -, -⟩ := s2 s hF
        rw [r2]
        have hF0 := hF
        rw [← eF] at hF0
        obtain ⟨m1, m2⟩ := ft_F_n _ _ _ _ _ _ hF0
        simp only at m1 m2
        obtain ⟨-, htr, -⟩ := ft_F_tr w3 17 _ _ _ _ _ 0 hF0 (fun _ z => by cases z) nI_0.symm (by omega)
        simp only at htr
        have i33 : am_I τ2 16 33 = nI s.2.2.1 := hG2.2.2.2.2
        have e25 : am_A τ2 16 25 = am_A σ 16 25 := fr2'.2.1 25 rfl
        refine kb_11_isFitted_43 (kt := fun _ => kb_11_isFitted_49 (k := ?_)) (kf := fun z => absurd z (nI_neg1 0 (by omega)))
        have copy : ∀ (j i : Nat), i + j = 6 * s.2.2.1 → ∀ f : Nat → Int32, (∀ z, z < 1008 ∨ 1008 + i ≤ z → f z = am_A σ 16 25 z) → (∀ z, z < i → f (1008 + z) = am_A τ2 16 32 z) → am_T true ya_11_isFitted (d + 21) Q 51 [some (.ref (am_oid 16)), some (.int (nI y.1.1)), some (.int (nI i))] [] (am_sA τ2 16 25 f) := by
          intro j
          induction j with
          | zero =>
            intro i hi f h1 h2
            have : i = 6 * s.2.2.1 := by omega
            subst this
            have e6 : (6 : Int32) * am_I (am_sA τ2 16 25 f) 16 33 = nI (6 * s.2.2.1) := by rw [am_I_sA, i33, show (6 : Int32) = nI 6 from rfl, nI_mul]
            refine kb_11_isFitted_51 (kt := fun _ => kb_11_isFitted_84 ?_) (kf := fun z => absurd ?_ z)
            · rw [am_A_sA, if_pos ⟨rfl, rfl⟩, am_sA_sA, am_I_sA, i33, ← hQ]
              obtain ⟨τ3, hτ3⟩ : ∃ τ3, τ3 = am_sA τ2 16 25 (upd f 2 (nI s.2.2.1)) := ⟨_, rfl⟩
              rw [← hτ3]
              have fr3 : mo_RF σ τ3 := by rw [hτ3]; exact (wk _ _ fr2').sA (by rfl) _
              have a25 : am_A τ3 16 25 = upd f 2 (nI s.2.2.1) := by rw [hτ3, am_A_sA, if_pos ⟨rfl, rfl⟩]
              have b25 : ∀ j, j ≠ 2 → j < 1008 → am_A τ3 16 25 j = am_A σ 16 25 j := fun j hj hj2 => by rw [a25, upd_n hj]; exact h1 j (by omega)
              refine ⟨fr3, fun z => (by rw [hF] at z; cases z), fun s' hs' => ⟨rfl, ?_⟩⟩
              rw [hF] at hs'
              injection hs' with hs'
              subst hs'
              refine ⟨hX.same (fun j hj => b25 j (by omega) (by omega)) (by rw [hτ3, am_A_sA, if_neg (by simp)]; exact fr2'.2.1 27 rfl), ⟨by show s.2.2.1 ≤ 400; omega, by rw [a25, upd_s], fun i hi ff hff => ?_, fun i hi => htr i (Nat.zero_le _) hi⟩, ?_, ?_, ?_, ?_, ?_, by rw [fr3.1 28 rfl]; exact gc, by rw [fr3.1 29 rfl]; exact go, fun t ht => by rw [fr3.1 30 rfl]; exact ga t ht⟩
              · have hi' : i < s.2.2.1 := hi
                rw [a25, upd_n (by omega), h2 (6 * i + ff) (by omega)]
                exact c2 i (Nat.zero_le _) hi' ff hff
              · rw [b25 4 (by omega) (by omega)]; exact g4
              · rw [b25 3 (by omega) (by omega)]; exact g3
              · rw [b25 5 (by omega) (by omega)]; exact g5
              · rw [b25 6 (by omega) (by omega)]; exact g6
              · rw [b25 7 (by omega) (by omega)]; exact g7
            · rw [e6]; exact nI_le (by omega) (by omega)
          | succ j ih =>
            intro i hi f h1 h2
            have e6 : (6 : Int32) * am_I (am_sA τ2 16 25 f) 16 33 = nI (6 * s.2.2.1) := by rw [am_I_sA, i33, show (6 : Int32) = nI 6 from rfl, nI_mul]
            have x1 : (1008 : Int32) + nI i = nI (1008 + i) := nI_add 1008 i
            refine kb_11_isFitted_51 (kt := fun z => absurd z ?_) (kf := fun _ => ?_)
            · rw [e6]; exact nI_ge (by omega) (by omega)
            refine kb_11_isFitted_62 (hi0 := vp_in_nI (by omega) (by omega)) (hi1 := by rw [x1]; exact vp_in_nI (by omega) (by omega)) (k := ?_)
            rw [x1, nI_clamp (by omega), nI_clamp (by omega), nI_1, am_sA_sA, am_A_sA, if_pos ⟨rfl, rfl⟩, am_A_sA, if_neg (by simp)]
            refine ih (i + 1) (by omega) _ (fun z hz => ?_) (fun z hz => ?_)
            · rw [upd_n (by omega)]; exact h1 z (by omega)
            · by_cases e : z = i
              · rw [e, upd_s]
              · rw [upd_n (by omega)]; exact h2 z (by omega)
        have := copy (6 * s.2.2.1) 0 (by omega) (am_A τ2 16 25) (fun z _ => by rw [e25]) (fun z hz => absurd hz (Nat.not_lt_zero z))
        rw [am_sA_id, nI_0] at this
        exact this
    | succ j ih =>
      intro i hi e he
      refine kb_11_isFitted_18 (kt := fun z => absurd z (nI_ge (by omega) (by omega))) (kf := fun _ => ?_)
      refine kb_11_isFitted_23 (hi0 := vp_in_nI (by omega) (by omega)) (k := ?_)
      rw [nI_clamp (by omega), nI_1, am_sA_sA, am_A_sA, if_pos ⟨rfl, rfl⟩]
      refine ih (i + 1) (by omega) _ (fun z hz => ?_)
      by_cases c : z = i
      · rw [c, upd_s]
      · rw [upd_n c]; exact he z (by omega)
  have := loop y.1.1 0 (by omega) (am_A τ0 16 34) (fun z hz => absurd hz (Nat.not_lt_zero z))
  rw [am_sA_id, nI_0] at this
  exact this
theorem mo_Wo.rf {τ : am_St} (hW : mo_Wo σ N K T tb fl nx) (hf : mo_RF σ τ) : mo_Wo τ N K T tb fl nx := hW.same hf rfl (fun k hk => by rcases hk with rfl | rfl | rfl | rfl | rfl | rfl | rfl <;> rfl)
theorem sp_11_round {y : lr_T} (h : mo_C σ y care order al T N) (he : y.2.2.1 = 0) (hW : mo_Wo σ N K T tb fl nx) : am_C true ya_11_round (d + 22) [.ref (am_oid 16)] σ (fun r τ => r = none ∧ mo_C τ (lr_rd N K T tb fl nx al care order y) care order al T N ∧ mo_RF σ τ) := by
  obtain ⟨σ1, hσ1⟩ : ∃ σ1, σ1 = am_sA σ 16 25 (upd (am_A σ 16 25) 3 (am_A σ 16 25 3 + 1)) := ⟨_, rfl⟩
  have f1 : mo_RF σ σ1 := by rw [hσ1]; exact mo_Fr.rf.sA (by rfl) _
  have e1 : ∀ j, j ≠ 3 → am_A σ1 16 25 j = am_A σ 16 25 j := fun j hj => by rw [hσ1, am_A_sA, if_pos ⟨rfl, rfl⟩, upd_n hj]
  have e3 : am_A σ1 16 25 3 = y.2.2.2.1 + 1 := by rw [hσ1, am_A_sA, if_pos ⟨rfl, rfl⟩, upd_s, h.2.2.2.1]
  have h1 : mo_C σ1 (y.1, y.2.1, y.2.2.1, y.2.2.2.1 + 1, y.2.2.2.2) care order al T N := h.chg (h.1.same (fun j hj => e1 j (by omega)) (by rw [hσ1, am_A_sA, if_neg (by simp)])) rfl (fun j hj => e1 j (by omega)) f1 (by rw [e1 4 (by omega)]; exact h.2.2.1) e3 (by rw [e1 5 (by omega)]; exact h.2.2.2.2.1) (by rw [e1 6 (by omega)]; exact h.2.2.2.2.2.1) (by rw [e1 7 (by omega)]; exact h.2.2.2.2.2.2.1)
  have hW1 := hW.rf f1
  refine am_enter rfl (by simp [Value.category]) (Nat.le_of_ble_eq_true rfl) ?_
  refine kb_11_round_0 (hC := by rw [← hσ1]; exact sp_11_isUnsafe h1.1.1) (k := fun r τ hr => ?_)
  obtain ⟨rfl, L, hτ⟩ := hr
  have f2 : mo_RF σ1 τ := by rw [hτ]; exact mo_Fr.rf.sA (by rfl) _
  have e2 : am_A τ 16 25 = am_A σ1 16 25 := by rw [hτ, am_A_sA, if_neg (by simp)]
  have h2 : mo_C τ (y.1, y.2.1, y.2.2.1, y.2.2.2.1 + 1, y.2.2.2.2) care order al T N := h1.chg (h1.1.same (fun j hj => by rw [e2]) (by rw [hτ, am_A_sA, if_neg (by simp)])) rfl (fun j hj => by rw [e2]) f2 (by rw [e2]; exact h1.2.2.1) (by rw [e2]; exact h1.2.2.2.1) (by rw [e2]; exact h1.2.2.2.2.1) (by rw [e2]; exact h1.2.2.2.2.2.1) (by rw [e2]; exact h1.2.2.2.2.2.2.1)
  have f12 := f1.tr f2
  have eg : am_clo y.1.2.1 y.1.2.2.2.2.1 y.1.2.2.2.2.2 (am_tg y.1.2.2.2.1 1 y.1.1) = lr_g y.1 := rfl
  dsimp only
  rw [eg]
  cases hu : lr_us y.1.1 y.1.2.2.2.1 (lr_g y.1) with
  | true =>
    refine kb_11_round_14 (kt := fun z => absurd z (by decide)) (kf := fun _ => ?_)
    refine kb_11_round_17 (hC := sp_11_ends) (k := fun r τ1 hr => ?_)
    obtain ⟨rfl, hτ1⟩ := hr
    refine kb_11_round_22 (k := kb_11_round_44 ?_)
    have er : lr_rd N K T tb fl nx al care order y = (y.1, y.2.1, 2, y.2.2.2.1 + 1, 0, -2, -2) := by unfold lr_rd; rw [if_pos hu]
    rw [er]
    obtain ⟨q1, q2⟩ := h2.ends 2 hτ1
    exact ⟨rfl, q1, f12.tr q2⟩
  | false =>
    refine kb_11_round_14 (kt := fun _ => ?_) (kf := fun z => absurd rfl z)
    refine kb_11_round_25 (hC := sp_11_isFitted h2 (hW1.rf f2)) (k := fun r τ1 hr => ?_)
    obtain ⟨f3, n3, s3⟩ := hr
    dsimp only at n3 s3
    have f13 := f12.tr f3
    cases hF : lr_fit T tb al care y.1 with
    | none =>
      obtain ⟨r3, c3⟩ := n3 hF
      rw [r3]
      refine kb_11_round_29 (kt := fun z => absurd rfl z) (kf := fun _ => ?_)
      refine kb_11_round_32 (hC := sp_11_ends) (k := fun r τ2 hr => ?_)
      obtain ⟨rfl, hτ2⟩ := hr
      refine kb_11_round_37 (k := kb_11_round_44 ?_)
      have er : lr_rd N K T tb fl nx al care order y = (y.1, y.2.1, 3, y.2.2.2.1 + 1, 0, -2, -2) := by unfold lr_rd; rw [if_neg (by rw [hu]; decide), hF]
      rw [er]
      obtain ⟨q1, q2⟩ := c3.ends 3 hτ2
      exact ⟨rfl, q1, f13.tr q2⟩
    | some s =>
      obtain ⟨r3, c3⟩ := s3 s hF
      rw [r3]
      refine kb_11_round_29 (kt := fun _ => ?_) (kf := fun z => absurd z (by decide))
      refine kb_11_round_40 (hC := sp_11_asks (K := K) (tb := tb) (fl := fl) (nx := nx) c3 he (hW.rf f13)) (k := fun r τ2 hr => ?_)
      obtain ⟨rfl, q1, q2⟩ := hr
      refine kb_11_round_44 ⟨rfl, ?_, f13.tr q2⟩
      have er : lr_rd N K T tb fl nx al care order y = ((te_ask N K fl nx (fun z => tr_hd s.2.2.1 s.2.2.2 (tb z)) order y.1).1, (s.2.2.1, s.2.2.2), (te_ask N K fl nx (fun z => tr_hd s.2.2.1 s.2.2.2 (tb z)) order y.1).2.1, y.2.2.2.1 + 1, (te_ask N K fl nx (fun z => tr_hd s.2.2.1 s.2.2.2 (tb z)) order y.1).2.2.1, (te_ask N K fl nx (fun z => tr_hd s.2.2.1 s.2.2.2 (tb z)) order y.1).2.2.2.1, (te_ask N K fl nx (fun z => tr_hd s.2.2.1 s.2.2.2 (tb z)) order y.1).2.2.2.2) := by unfold lr_rd; rw [if_neg (by rw [hu]; decide), hF]
      rw [er]
      exact q1
theorem sp_11_rounds {m : Nat} {y : lr_T} (hm : m ≤ 100) (h : mo_C σ y care order al T N) (hW : mo_Wo σ N K T tb fl nx) : am_C true ya_11_rounds (d + 23) [.ref (am_oid 16), .int (nI m)] σ (fun r τ => r = some (.int (nI (lr_rds N K T tb fl nx al care order m y).2)) ∧ mo_C τ (lr_rds N K T tb fl nx al care order m y).1 care order al T N ∧ mo_RF σ τ) := by
  have loop : ∀ (j i : Nat) (y : lr_T) (τ : am_St), i + j = m → mo_C τ y care order al T N → mo_RF σ τ → am_T true ya_11_rounds (d + 23) (fun r τ => r = some (.int (nI (i + (lr_rds N K T tb fl nx al care order j y).2))) ∧ mo_C τ (lr_rds N K T tb fl nx al care order j y).1 care order al T N ∧ mo_RF σ τ) 2 [some (.ref (am_oid 16)), some (.int (nI m)), some (.int (nI i))] [] τ := by
    intro j
    induction j with
    | zero =>
      intro i y τ hi hy hf
      exact kb_11_rounds_2 (kt := fun _ => kb_11_rounds_26 ⟨rfl, hy, hf⟩) (kf := fun z => absurd (nI_le (by omega) (by omega)) z)
    | succ j ih =>
      intro i y τ hi hy hf
      refine kb_11_rounds_2 (kt := fun z => absurd z (nI_ge (by omega) (by omega))) (kf := fun _ => ?_)
      refine kb_11_rounds_7 (kt := fun z => ?_) (kf := fun z => ?_)
      · rw [hy.2.2.1] at z
        have er : lr_rds N K T tb fl nx al care order (j + 1) y = (y, 0) := by
          show (if y.2.2.1 = 0 then _ else _) = _
          rw [if_neg z]
        rw [er]
        exact kb_11_rounds_26 ⟨rfl, hy, hf⟩
      · rw [hy.2.2.1] at z
        have er : lr_rds N K T tb fl nx al care order (j + 1) y = ((lr_rds N K T tb fl nx al care order j (lr_rd N K T tb fl nx al care order y)).1, (lr_rds N K T tb fl nx al care order j (lr_rd N K T tb fl nx al care order y)).2 + 1) := by
          show (if y.2.2.1 = 0 then _ else _) = _
          rw [if_pos z]
        rw [er]
        refine kb_11_rounds_16 (hC := sp_11_round hy z (hW.rf hf)) (k := fun r τ1 hr => ?_)
        obtain ⟨rfl, hy1, hf1⟩ := hr
        refine kb_11_rounds_20 (k := ?_)
        rw [nI_1]
        have := ih (i + 1) _ τ1 (by omega) hy1 (hf.tr hf1)
        rw [show i + 1 + (lr_rds N K T tb fl nx al care order j (lr_rd N K T tb fl nx al care order y)).2 = i + ((lr_rds N K T tb fl nx al care order j (lr_rd N K T tb fl nx al care order y)).2 + 1) by omega] at this
        exact this
  refine am_enter rfl (by simp [Value.category]) (Nat.le_of_ble_eq_true rfl) (kb_11_rounds_0 (k := ?_))
  have := loop m 0 y σ (by omega) h mo_Fr.rf
  rw [nI_0, Nat.zero_add] at this
  exact this
end MROUND
