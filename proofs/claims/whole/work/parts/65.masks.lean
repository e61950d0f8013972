/-! THE REFERENCE: comes, isNew, brings, ends, asks -/
def mo_Po (f : Nat → Int32) (P : Nat) (st : Nat → Nat) : Prop := (∀ i, i < P → f (st i) = nI i) ∧ ∀ s, s < 600 → (∀ i, i < P → st i ≠ s) → f s = -1
theorem mo_Po.find {f : Nat → Int32} {P : Nat} {st : Nat → Nat} (h : mo_Po f P st) {s : Nat} (hs : s < 600) : (∃ i, i < P ∧ st i = s ∧ f s = nI i ∧ sm_find st P s = some i) ∨ (f s = -1 ∧ (∀ i, i < P → st i ≠ s) ∧ sm_find st P s = none) := by
  cases hf : sm_find st P s with
  | some j =>
    obtain ⟨-, h2, h3⟩ := am_fd_some P 0 hf
    have h3' : st j = s := by simpa using h3
    refine Or.inl ⟨j, by omega, h3', ?_, rfl⟩
    rw [← h3']; exact h.1 j (by omega)
  | none =>
    have hn := am_fd_none P 0 hf
    have hn' : ∀ i, i < P → st i ≠ s := fun i hi z => by
      have := hn i (by omega) (by omega)
      simp [z] at this
    exact Or.inr ⟨h.2 s hs hn', hn', rfl⟩
def mo_X (σ : am_St) (x : sm_T) (N : Nat) : Prop := mo_Sm σ x.1 x.2.1 x.2.2.1 x.2.2.2.1 x.2.2.2.2.1 x.2.2.2.2.2 ∧ (∀ i, i < x.1 → x.2.2.1 i < N) ∧ mo_Po (am_A σ 16 27) x.1 x.2.2.1
abbrev mo_RF := mo_Fr [33] [25, 27, 31, 32, 34, 35]
theorem mo_X.same {σ τ : am_St} {x : sm_T} {N : Nat} (h : mo_X σ x N) (hK : ∀ j, j < 2 ∨ (8 ≤ j ∧ j < 1008) → am_A τ 16 25 j = am_A σ 16 25 j) (h27 : am_A τ 16 27 = am_A σ 16 27) : mo_X τ x N := by
  obtain ⟨⟨h1, h2, h3, h4, h5, h6⟩, h7, h8⟩ := h
  refine ⟨⟨h1, h2, by rw [hK 0 (by omega)]; exact h3, by rw [hK 1 (by omega)]; exact h4, fun i hi => ?_, fun k hk => ?_⟩, h7, by rw [h27]; exact h8⟩
  · rw [hK (8 + i) (by omega), hK (208 + i) (by omega)]; exact h5 i hi
  · rw [hK (408 + k) (by omega), hK (708 + k) (by omega)]; exact h6 k hk
theorem te_tell_iff {x : sm_T} {s w : Nat} (hP : x.1 ≤ 200) : (x.1 + te_new x s ≤ 200 ∧ ∃ p, te_tell x s w = some p) ∨ (¬ x.1 + te_new x s ≤ 200 ∧ te_tell x s w = none) := by
  unfold te_tell te_new
  cases hf : sm_find x.2.2.1 x.1 s with
  | some i => exact Or.inl ⟨by dsimp only; omega, _, rfl⟩
  | none =>
    dsimp only
    by_cases c : x.1 < 200
    · rw [if_pos c]; exact Or.inl ⟨by omega, _, rfl⟩
    · rw [if_neg c]; exact Or.inr ⟨by omega, rfl⟩
theorem am_un_id (f : Nat → Nat) (k : Nat) : am_un f k (f k) = f := by
  funext i; unfold am_un; split
  · rename_i h; rw [h]
  · rfl
theorem te_tell_0 {x : sm_T} {s : Nat} (h : x.1 + te_new x s ≤ 200) : te_tell x s 0 = some (te_add x s) := by
  unfold te_tell te_add
  unfold te_new at h
  cases hf : sm_find x.2.2.1 x.1 s with
  | some i => dsimp only; rw [Nat.or_zero, am_un_id]
  | none =>
    rw [hf] at h
    dsimp only at h ⊢
    rw [if_pos (by omega)]
theorem sp_11_isNew {d s N : Nat} {x : sm_T} {σ : am_St} (h : mo_X σ x N) (hs : s < 600) : am_C true ya_11_isNew d [.ref (am_oid 16), .int (nI s)] σ (fun r τ => τ = σ ∧ r = some (.int (nI (te_new x s)))) := by
  refine am_enter rfl (by simp [Value.category]) (Nat.le_of_ble_eq_true rfl) ?_
  refine kb_11_isNew_0 (hi0 := vp_in_nI (by omega) (by omega)) (kt := fun z => ?_) (kf := fun z => ?_)
  · rw [nI_clamp (by omega)] at z
    refine kb_11_isNew_14 (k := kb_11_isNew_15 ⟨rfl, ?_⟩)
    rcases h.2.2.find hs with ⟨i, -, -, -, c⟩ | ⟨c, -, -⟩
    · unfold te_new; rw [c]; rfl
    · exact absurd c z
  · rw [nI_clamp (by omega)] at z
    refine kb_11_isNew_10 (k := kb_11_isNew_15 ⟨rfl, ?_⟩)
    rcases h.2.2.find hs with ⟨i, c0, -, c, -⟩ | ⟨-, -, c⟩
    · rw [c] at z; exact absurd z (nI_neg1 i (by have := h.1.1; omega))
    · unfold te_new; rw [c]; rfl
theorem sp_11_comes {d s N w : Nat} {x : sm_T} {σ : am_St} (h : mo_X σ x N) (hN : N ≤ 600) (hs : s < N) (hw : w < 4) {p : sm_T × Nat} (hp : te_tell x s w = some p) : am_C true ya_11_comes d [.ref (am_oid 16), .int (nI s), .int (nI w)] σ (fun r τ => r = some (.int (nI p.2)) ∧ mo_X τ p.1 N ∧ mo_RF σ τ ∧ ∀ j, (0 < j ∧ j < 8) ∨ 408 ≤ j → am_A τ 16 25 j = am_A σ 16 25 j) := by
  obtain ⟨⟨hP, hq, k0, k1, hpt, hpr⟩, hst, hpo⟩ := h
  obtain ⟨P, q, st, td, fs, sn⟩ := x
  dsimp only at hP hq k0 k1 hpt hpr hst hpo
  have hs6 : s < 600 := by omega
  refine am_enter rfl (by simp [Value.category]) (Nat.le_of_ble_eq_true rfl) ?_
  rcases hpo.find hs6 with ⟨i, c0, c1, c2, c3⟩ | ⟨c2, c1, c3⟩
  · unfold te_tell at hp
    dsimp only at hp
    rw [c3] at hp
    injection hp with hp
    subst hp
    refine kb_11_comes_0 (hi0 := vp_in_nI (by omega) (by omega)) (kt := fun _ => ?_) (kf := fun z => ?_)
    · rw [nI_clamp (by omega), c2]
      have x1 : (208 : Int32) + nI i = nI (208 + i) := nI_add 208 i
      have v : vp_in ((208 : Int32) + nI i) 3414 := by rw [x1]; exact vp_in_nI (by omega) (by omega)
      obtain ⟨p1, p2, p3, p4⟩ := hpt i c0
      obtain ⟨o1, o2⟩ := nI_or p4 hw
      refine kb_11_comes_57 (hi0 := v) (hi1 := v) (hq := ⟨rfl, ⟨⟨hP, hq, ?_, ?_, fun i' hi' => ?_, fun k hk => ?_⟩, hst, ?_⟩, ?_, fun j hj => ?_⟩)
      · rw [am_A_sA, if_pos ⟨rfl, rfl⟩, x1, nI_clamp (by omega), upd_n (by omega)]; exact k0
      · rw [am_A_sA, if_pos ⟨rfl, rfl⟩, x1, nI_clamp (by omega), upd_n (by omega)]; exact k1
      · dsimp only at hi'
        rw [am_A_sA, if_pos ⟨rfl, rfl⟩, x1, nI_clamp (by omega), upd_n (by omega)]
        obtain ⟨q1, q2, q3, q4⟩ := hpt i' hi'
        refine ⟨q1, q2, ?_⟩
        dsimp only
        by_cases e : i' = i
        · subst e
          rw [upd_s, am_un_s, p3, o1]
          exact ⟨rfl, o2⟩
        · rw [upd_n (by omega), am_un_n e]; exact ⟨q3, q4⟩
      · rw [am_A_sA, if_pos ⟨rfl, rfl⟩, x1, nI_clamp (by omega), upd_n (by omega), upd_n (by omega)]; exact hpr k hk
      · rw [am_A_sA, if_neg (by simp)]; exact hpo
      · exact mo_Fr.rf.sA (by rfl) _
      · rw [am_A_sA, if_pos ⟨rfl, rfl⟩, x1, nI_clamp (by omega), upd_n (by omega)]
    · rw [nI_clamp (by omega), c2] at z
      exact absurd z (nI_neg1 i (by omega))
  · unfold te_tell at hp
    dsimp only at hp
    rw [c3] at hp
    dsimp only at hp
    have hP2 : P < 200 := by
      by_cases c : P < 200
      · exact c
      · rw [if_neg c] at hp; cases hp
    rw [if_pos hP2] at hp
    injection hp with hp
    subst hp
    refine kb_11_comes_0 (hi0 := vp_in_nI (by omega) (by omega)) (kt := fun z => ?_) (kf := fun _ => ?_)
    · rw [nI_clamp (by omega), c2] at z
      exact absurd rfl z
    · have x0 : (8 : Int32) + am_A σ 16 25 0 = nI (8 + P) := by rw [k0]; exact nI_add 8 P
      have x1 : (208 : Int32) + am_A σ 16 25 0 = nI (208 + P) := by rw [k0]; exact nI_add 208 P
      have x2 : (208 : Int32) + nI P = nI (208 + P) := nI_add 208 P
      refine kb_11_comes_12 (hi1 := by rw [x0]; exact vp_in_nI (by omega) (by omega)) (hi2 := by rw [x1]; exact vp_in_nI (by omega) (by omega)) (hi3 := vp_in_nI (by omega) (by omega)) (k := ?_)
      rw [x0, x1, nI_clamp (show 8 + P < 2 ^ 31 by omega), nI_clamp (show 208 + P < 2 ^ 31 by omega), nI_clamp (show s < 2 ^ 31 by omega), am_sA_sA, am_sA_comm _ 16 25 16 27 _ _ (by simp), am_sA_sA, k0]
      have v : vp_in ((208 : Int32) + nI P) 3414 := by rw [x2]; exact vp_in_nI (by omega) (by omega)
      refine kb_11_comes_57 (hi0 := v) (hi1 := v) (hq := ?_)
      rw [x2, nI_clamp (show 208 + P < 2 ^ 31 by omega), am_sA_sA, am_A_sA, if_pos ⟨rfl, rfl⟩]
      obtain ⟨K, hK⟩ : ∃ K : Nat → Int32, K = upd (upd (upd (upd (am_A σ 16 25) (8 + P) (nI s)) (208 + P) 0) 0 (upd (upd (am_A σ 16 25) (8 + P) (nI s)) (208 + P) 0 0 + 1)) (208 + P) (upd (upd (upd (am_A σ 16 25) (8 + P) (nI s)) (208 + P) 0) 0 (upd (upd (am_A σ 16 25) (8 + P) (nI s)) (208 + P) 0 0 + 1) (208 + P) ||| nI w) := ⟨_, rfl⟩
      rw [← hK]
      have K0 : K 0 = nI (P + 1) := by rw [hK, upd_n (by omega), upd_s, upd_n (by omega), upd_n (by omega), k0, nI_1]
      have K1 : K (8 + P) = nI s := by rw [hK, upd_n (by omega), upd_n (by omega), upd_n (by omega), upd_s]
      have K2 : K (208 + P) = nI w := by rw [hK, upd_s, upd_n (by omega), upd_s]; rw [← nI_0]; rw [(nI_or (show 0 < 4 by omega) hw).1, Nat.zero_or]
      have K3 : ∀ j, j ≠ 0 → j ≠ 8 + P → j ≠ 208 + P → K j = am_A σ 16 25 j := fun j h1 h2 h3 => by rw [hK, upd_n h3, upd_n h1, upd_n h3, upd_n h2]
      refine ⟨rfl, ⟨⟨hP2, hq, ?_, ?_, fun i hi => ?_, fun k hk => ?_⟩, fun i hi => ?_, ?_, fun s' hs' hn' => ?_⟩, ?_, fun j hj => ?_⟩
      · rw [am_A_sA, if_pos ⟨rfl, rfl⟩]; exact K0
      · rw [am_A_sA, if_pos ⟨rfl, rfl⟩, K3 1 (by omega) (by omega) (by omega)]; exact k1
      · rw [am_A_sA, if_pos ⟨rfl, rfl⟩]
        dsimp only at hi ⊢
        by_cases e : i = P
        · subst e
          rw [am_un_s, am_un_s]
          exact ⟨K1, hs6, K2, hw⟩
        · rw [am_un_n e, am_un_n e, K3 (8 + i) (by omega) (by omega) (by omega), K3 (208 + i) (by omega) (by omega) (by omega)]
          exact hpt i (by omega)
      · rw [am_A_sA, if_pos ⟨rfl, rfl⟩]
        dsimp only at hk ⊢
        rw [K3 (408 + k) (by omega) (by omega) (by omega), K3 (708 + k) (by omega) (by omega) (by omega)]
        obtain ⟨q1, q2, q3, q4⟩ := hpr k hk
        exact ⟨q1, q2, by omega, by omega⟩
      · dsimp only at hi ⊢
        by_cases e : i = P
        · rw [e, am_un_s]; exact hs
        · rw [am_un_n e]; exact hst i (by omega)
      · intro i hi
        dsimp only at hi ⊢
        rw [am_A_sA, if_neg (by simp), am_A_sA, if_pos ⟨rfl, rfl⟩]
        by_cases e : i = P
        · rw [e, am_un_s, upd_s]
        · rw [am_un_n e, upd_n (c1 i (by omega))]; exact hpo.1 i (by omega)
      · dsimp only at hn'
        rw [am_A_sA, if_neg (by simp), am_A_sA, if_pos ⟨rfl, rfl⟩]
        have e : s' ≠ s := fun z => by have := hn' P (by omega); rw [am_un_s] at this; exact this z.symm
        rw [upd_n e]
        refine hpo.2 s' hs' (fun i hi => ?_)
        have := hn' i (by omega)
        rw [am_un_n (by omega)] at this
        exact this
      · exact (mo_Fr.rf.sA (by rfl) _).sA (by rfl) _
      · rw [am_A_sA, if_pos ⟨rfl, rfl⟩, K3 j (by omega) (by omega) (by omega)]
theorem sp_11_brings {d : Nat} {x1 x2 x3 : Int32} {σ : am_St} : am_C true ya_11_brings d [.ref (am_oid 16), .int x1, .int x2, .int x3] σ (fun r τ => r = none ∧ τ = am_sA σ 16 25 (upd (upd (upd (am_A σ 16 25) 5 x1) 6 x2) 7 x3)) := by
  refine am_enter rfl (by simp [Value.category]) (Nat.le_of_ble_eq_true rfl) ?_
  refine kb_11_brings_0 (hq := ⟨rfl, ?_⟩)
  rw [am_sA_sA, am_sA_sA]
theorem sp_11_ends {d : Nat} {x1 : Int32} {σ : am_St} : am_C true ya_11_ends (d + 1) [.ref (am_oid 16), .int x1] σ (fun r τ => r = none ∧ τ = am_sA σ 16 25 (upd (upd (upd (upd (am_A σ 16 25) 4 x1) 5 0) 6 (-2)) 7 (-2))) := by
  refine am_enter rfl (by simp [Value.category]) (Nat.le_of_ble_eq_true rfl) ?_
  refine kb_11_ends_0 (hC := sp_11_brings) (k := fun r τ hr => ?_)
  obtain ⟨rfl, rfl⟩ := hr
  refine kb_11_ends_16 (hq := ⟨rfl, ?_⟩)
  rw [am_sA_sA, am_A_sA, if_pos ⟨rfl, rfl⟩]
def mo_C (σ : am_St) (y : lr_T) (care order : Bool) (al : Nat → Bool) (T N : Nat) : Prop :=
  mo_X σ y.1 N ∧ mo_Nd (am_A σ 16 25) y.2.1.1 y.2.1.2 ∧ am_A σ 16 25 4 = y.2.2.1 ∧ am_A σ 16 25 3 = y.2.2.2.1 ∧ am_A σ 16 25 5 = y.2.2.2.2.1 ∧ am_A σ 16 25 6 = y.2.2.2.2.2.1 ∧ am_A σ 16 25 7 = y.2.2.2.2.2.2 ∧ am_I σ 16 28 = am_bI care ∧ am_I σ 16 29 = am_bI order ∧ ∀ t, t < T → (nI t = am_I σ 16 30) = (al t = false)
theorem mo_Nd.same {K K' : Nat → Int32} {n : Nat} {nd : Nat → Nat → Int32} (h : mo_Nd K n nd) (hK : ∀ j, j = 2 ∨ 1008 ≤ j → K' j = K j) : mo_Nd K' n nd := ⟨h.1, by rw [hK 2 (by omega)]; exact h.2.1, fun i hi f hf => by rw [hK _ (by omega)]; exact h.2.2.1 i hi f hf, h.2.2.2⟩
theorem mo_C.chg {σ τ : am_St} {y y' : lr_T} {care order : Bool} {al : Nat → Bool} {T N : Nat} (h : mo_C σ y care order al T N) (hX : mo_X τ y'.1 N) (h2 : y'.2.1 = y.2.1) (hK : ∀ j, j = 2 ∨ 1008 ≤ j → am_A τ 16 25 j = am_A σ 16 25 j) (hf : mo_RF σ τ) (c4 : am_A τ 16 25 4 = y'.2.2.1) (c3 : am_A τ 16 25 3 = y'.2.2.2.1) (c5 : am_A τ 16 25 5 = y'.2.2.2.2.1) (c6 : am_A τ 16 25 6 = y'.2.2.2.2.2.1) (c7 : am_A τ 16 25 7 = y'.2.2.2.2.2.2) : mo_C τ y' care order al T N := by
  obtain ⟨-, h2', -, -, -, -, -, h8, h9, h10⟩ := h
  refine ⟨hX, ?_, c4, c3, c5, c6, c7, by rw [hf.1 28 rfl]; exact h8, by rw [hf.1 29 rfl]; exact h9, fun t ht => by rw [hf.1 30 rfl]; exact h10 t ht⟩
  rw [h2]
  exact h2'.same hK
