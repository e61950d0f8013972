/-! Samples.addPoint, tell, addPair, clear -/
theorem am_lo_none {f : Nat → Nat} {p n : Nat} (h : ∀ k, k < n → f k ≠ p) : am_lo f p n = -1 := by
  rcases am_lo_cases f p n with ⟨h1, -⟩ | ⟨k, h1, -, h3, -⟩
  · exact h1
  · exact absurd h3 (h k h1)
theorem am_lo_congr {f g : Nat → Nat} {p n : Nat} (h : ∀ k, k < n → f k = g k) : am_lo f p n = am_lo g p n := by
  induction n with
  | zero => rfl
  | succ n ih => unfold am_lo; rw [h n (Nat.lt_succ_self n), ih (fun k hk => h k (by omega))]
/-- one place of a function of numbers -/
def am_un (f : Nat → Nat) (k x : Nat) : Nat → Nat := fun i => if i = k then x else f i
theorem am_un_s (f : Nat → Nat) (k x : Nat) : am_un f k x k = x := by simp [am_un]
theorem am_un_n {f : Nat → Nat} {k x i : Nat} (h : i ≠ k) : am_un f k x i = f i := by simp [am_un, h]
theorem upd_s (f : Nat → Int32) (k : Nat) (x : Int32) : upd f k x k = x := by simp [upd]
theorem upd_n {f : Nat → Int32} {k : Nat} {x : Int32} {i : Nat} (h : i ≠ k) : upd f k x i = f i := by simp [upd, h]
/-- the state behind a new point -/
def sm_add (σ : am_St) (o s P : Nat) : am_St := am_sI (am_sA (am_sA (am_sA (am_sA (am_sA σ o 2 (upd (am_A σ o 2) P (nI s))) o 3 (upd (am_A σ o 3) P 0)) o 7 (upd (am_A σ o 7) P (-1))) o 9 (upd (am_A σ o 9) P (-1))) o 6 (upd (am_A σ o 6) s (nI P))) o 0 (nI (P + 1))
theorem sm_add_ok {σ : am_St} {o P q s : Nat} {st td fs sn : Nat → Nat} (h : am_Sm σ o P q st td fs sn) (hs : s < 600) (hn : ∀ i, i < P → st i ≠ s) (hP : P < 200) : am_Sm (sm_add σ o s P) o (P + 1) q (am_un st P s) (am_un td P 0) fs sn := by
  obtain ⟨h1, h2, h3, h4, h5, h6, h7, h8, h9, h10⟩ := h
  have eA : ∀ k, k ≠ 2 → k ≠ 3 → k ≠ 7 → k ≠ 9 → k ≠ 6 → am_A (sm_add σ o s P) o k = am_A σ o k := fun k c1 c2 c3 c4 c5 => by
    unfold sm_add
    rw [am_A_sI, am_A_sA, if_neg (fun h => c5 h.1), am_A_sA, if_neg (fun h => c4 h.1), am_A_sA, if_neg (fun h => c3 h.1), am_A_sA, if_neg (fun h => c2 h.1), am_A_sA, if_neg (fun h => c1 h.1)]
  have e2 : am_A (sm_add σ o s P) o 2 = upd (am_A σ o 2) P (nI s) := by unfold sm_add; simp [am_A_sI, am_A_sA]
  have e3 : am_A (sm_add σ o s P) o 3 = upd (am_A σ o 3) P 0 := by unfold sm_add; simp [am_A_sI, am_A_sA]
  have e7 : am_A (sm_add σ o s P) o 7 = upd (am_A σ o 7) P (-1) := by unfold sm_add; simp [am_A_sI, am_A_sA]
  have e9 : am_A (sm_add σ o s P) o 9 = upd (am_A σ o 9) P (-1) := by unfold sm_add; simp [am_A_sI, am_A_sA]
  have e6 : am_A (sm_add σ o s P) o 6 = upd (am_A σ o 6) s (nI P) := by unfold sm_add; simp [am_A_sI, am_A_sA]
  obtain ⟨a1, a2, a3, a4⟩ := h7
  obtain ⟨b1, b2, b3, b4⟩ := h8
  refine ⟨h1, hP, h3, ?_, ?_, fun i hi => ?_, ⟨fun p hp => ?_, fun k hk => ?_, fun k hk => ?_, fun k hk => ?_⟩, ⟨fun p hp => ?_, fun k hk => ?_, fun k hk => ?_, fun k hk => ?_⟩, fun i hi => ?_, fun z hz hzn => ?_⟩
  · unfold sm_add; simp [am_I_sI]
  · unfold sm_add; simp [am_I_sI, am_I_sA]; exact h5
  · rw [e2, e3]
    by_cases c : i = P
    · subst c
      rw [upd_s, upd_s, am_un_s, am_un_s]
      exact ⟨rfl, hs, nI_0.symm, by decide⟩
    · rw [upd_n c, upd_n c, am_un_n c, am_un_n c]
      exact h6 i (by omega)
  · rw [e7]
    by_cases c : p = P
    · subst c
      rw [upd_s, am_lo_none (fun k hk => Nat.ne_of_lt (a4 k hk).1)]
    · rw [upd_n c]; exact a1 p (by omega)
  · rw [eA 8 (by decide) (by decide) (by decide) (by decide) (by decide)]; exact a2 k hk
  · rw [eA 5 (by decide) (by decide) (by decide) (by decide) (by decide)]; exact a3 k hk
  · have := a4 k hk; omega
  · rw [e9]
    by_cases c : p = P
    · subst c
      rw [upd_s, am_lo_none (fun k hk => Nat.ne_of_lt (b4 k hk).1)]
    · rw [upd_n c]; exact b1 p (by omega)
  · rw [eA 10 (by decide) (by decide) (by decide) (by decide) (by decide)]; exact b2 k hk
  · rw [eA 4 (by decide) (by decide) (by decide) (by decide) (by decide)]; exact b3 k hk
  · have := b4 k hk; omega
  · rw [e6]
    by_cases c : i = P
    · subst c
      rw [am_un_s, upd_s]
    · rw [am_un_n c, upd_n (hn i (by omega))]
      exact h9 i (by omega)
  · rw [e6]
    have hzs : z ≠ s := fun e => hzn P (by omega) (by rw [am_un_s]; exact e.symm)
    rw [upd_n hzs]
    refine h10 z hz (fun i hi => ?_)
    have := hzn i (by omega)
    rwa [am_un_n (show i ≠ P by omega)] at this
theorem am_neg2 : (-2 : Int32) < 0 := by decide
/-- whether a state is a point, and which -/
theorem am_Sm.pt {σ : am_St} {o P q : Nat} {st td fs sn : Nat → Nat} (h : am_Sm σ o P q st td fs sn) (s : Nat) (hs : s < 600) : (∃ i, i < P ∧ st i = s ∧ am_A σ o 6 s = nI i) ∨ ((∀ i, i < P → st i ≠ s) ∧ am_A σ o 6 s = -2) := by
  by_cases c : ∃ i, i < P ∧ st i = s
  · obtain ⟨i, h1, h2⟩ := c
    exact Or.inl ⟨i, h1, h2, by rw [← h2]; exact h.2.2.2.2.2.2.2.2.1 i h1⟩
  · have c' : ∀ i, i < P → st i ≠ s := fun i hi e => c ⟨i, hi, e⟩
    exact Or.inr ⟨c', h.2.2.2.2.2.2.2.2.2 s hs c'⟩
theorem sp_5_addPoint {d o P q : Nat} {st td fs sn : Nat → Nat} {σ : am_St} (h : am_Sm σ o P q st td fs sn) (s : Nat) (hs : s < 600) {Q : Option Value → am_St → Prop}
    (k1 : ∀ i, i < P → st i = s → Q (some (.int (nI i))) σ) (k2 : (∀ i, i < P → st i ≠ s) → P = 200 → Q (some (.int (-1))) σ) (k3 : (∀ i, i < P → st i ≠ s) → P < 200 → Q (some (.int (nI P))) (sm_add σ o s P)) : am_C false ya_5_addPoint d [.ref (am_oid o), .int (nI s)] σ Q := by
  have ho := h.1
  have hP := h.2.1
  have h4 := h.2.2.2.1
  refine am_enter rfl (by simp [Value.category]) (Nat.le_of_ble_eq_true rfl) ?_
  have vs : vp_in (nI s) 600 := vp_in_nI hs (by omega)
  rcases h.pt s hs with ⟨i, c1, c2, c3⟩ | ⟨c1, c2⟩
  · refine kb_5_addPoint_0 (hi0 := vs) (kt := fun g => absurd g ?_) (kf := fun _ => kb_5_addPoint_9 (hi0 := vs) (hq := ?_))
    · rw [nI_clamp (by omega), c3]; exact nI_pos (by omega)
    · rw [nI_clamp (by omega), c3]; exact k1 i c1 c2
  · refine kb_5_addPoint_0 (hi0 := vs) (kt := fun _ => ?_) (kf := fun g => absurd ?_ g)
    · have e200 : (200 : Int32) = nI 200 := by decide
      refine kb_5_addPoint_16 (kt := fun g => ?_) (kf := fun g => kb_5_addPoint_26 (k2 c1 ?_))
      · rw [h4, e200, nI_ltI (by omega) (by omega)] at g
        have vP : vp_in (am_I σ o 0) 200 := by rw [h4]; exact vp_in_nI (by omega) (by omega)
        refine kb_5_addPoint_28 (hi1 := vP) (hi2 := vP) (hi3 := vP) (hi4 := vP) (hi5 := vs) (hq := ?_)
        rw [h4, nI_clamp (by omega), nI_clamp (by omega), nI_1]
        exact k3 c1 g
      · rw [h4, e200, nI_ltI (by omega) (by omega)] at g
        omega
    · rw [nI_clamp (by omega), c2]; exact am_neg2
theorem nI_or {a b : Nat} (ha : a < 4) (hb : b < 4) : nI a ||| nI b = nI (a ||| b) ∧ a ||| b < 4 := by
  have : ∀ a, a < 4 → ∀ b, b < 4 → nI a ||| nI b = nI (a ||| b) ∧ a ||| b < 4 := by decide +kernel
  exact this a ha b hb
/-- the state where a point is told more -/
def sm_tell (σ : am_St) (o p x : Nat) : am_St := am_sA σ o 3 (upd (am_A σ o 3) p (nI x))
theorem sm_tell_ok {σ : am_St} {o P q p x : Nat} {st td fs sn : Nat → Nat} (h : am_Sm σ o P q st td fs sn) (hx : x < 4) : am_Sm (sm_tell σ o p x) o P q st (am_un td p x) fs sn := by
  obtain ⟨h1, h2, h3, h4, h5, h6, h7, h8, h9, h10⟩ := h
  have eA : ∀ k, k ≠ 3 → am_A (sm_tell σ o p x) o k = am_A σ o k := fun k c => by unfold sm_tell; rw [am_A_sA, if_neg (fun h => c h.1)]
  have e3 : am_A (sm_tell σ o p x) o 3 = upd (am_A σ o 3) p (nI x) := by unfold sm_tell; rw [am_A_sA, if_pos ⟨rfl, rfl⟩]
  refine ⟨h1, h2, h3, h4, h5, fun i hi => ?_, h7.same (eA 7 (by decide)) (eA 8 (by decide)) (eA 5 (by decide)), h8.same (eA 9 (by decide)) (eA 10 (by decide)) (eA 4 (by decide)), fun i hi => ?_, fun s hs hn => ?_⟩
  · rw [eA 2 (by decide), e3]
    obtain ⟨g1, g2, g3, g4⟩ := h6 i hi
    by_cases c : i = p
    · subst c; rw [upd_s, am_un_s]; exact ⟨g1, g2, rfl, hx⟩
    · rw [upd_n c, am_un_n c]; exact ⟨g1, g2, g3, g4⟩
  · rw [eA 6 (by decide)]; exact h9 i hi
  · rw [eA 6 (by decide)]; exact h10 s hs hn
theorem sp_5_tell {d o P q : Nat} {st td fs sn : Nat → Nat} {σ : am_St} (h : am_Sm σ o P q st td fs sn) (s w : Nat) (hs : s < 600) (hw : w < 4) {Q : Option Value → am_St → Prop}
    (k1 : ∀ i, i < P → st i = s → Q (some (.int (nI i))) (sm_tell σ o i (td i ||| w))) (k2 : (∀ i, i < P → st i ≠ s) → P = 200 → Q (some (.int (-1))) σ) (k3 : (∀ i, i < P → st i ≠ s) → P < 200 → Q (some (.int (nI P))) (sm_tell (sm_add σ o s P) o P w)) : am_C false ya_5_tell (d + 1) [.ref (am_oid o), .int (nI s), .int (nI w)] σ Q := by
  have ho := h.1
  have hP := h.2.1
  refine am_enter rfl (by simp [Value.category]) (Nat.le_of_ble_eq_true rfl) ?_
  refine kb_5_tell_0 (Q' := fun r τ => am_T false ya_5_tell (d + 1) Q 5 (am_L0 [.ref (am_oid o), .int (nI s), .int (nI w)] 4) (r.toList ++ []) τ) (hC := sp_5_addPoint h s hs (fun i hi e => ?_) (fun c1 c2 => ?_) (fun c1 c2 => ?_)) (k := fun _ _ hr => hr)
  · refine kb_5_tell_5 (kt := fun g => absurd g (nI_pos (by omega))) (kf := fun _ => ?_)
    have v : vp_in (nI i) 200 := vp_in_nI (by omega) (by omega)
    refine kb_5_tell_10 (hi0 := v) (hi1 := v) (k := kb_5_tell_20 ?_)
    obtain ⟨g1, g2, g3, g4⟩ := h.2.2.2.2.2.1 i hi
    rw [nI_clamp (by omega), g3, (nI_or g4 hw).1]
    exact k1 i hi e
  · exact kb_5_tell_5 (kt := fun _ => kb_5_tell_20 (k2 c1 c2)) (kf := fun g => absurd am_neg1 g)
  · refine kb_5_tell_5 (kt := fun g => absurd g (nI_pos (by omega))) (kf := fun _ => ?_)
    have v : vp_in (nI P) 200 := vp_in_nI (by omega) (by omega)
    refine kb_5_tell_10 (hi0 := v) (hi1 := v) (k := kb_5_tell_20 ?_)
    have e3 : am_A (sm_add σ o s P) o 3 P = 0 := by
      have : am_A (sm_add σ o s P) o 3 = upd (am_A σ o 3) P 0 := by unfold sm_add; simp [am_A_sI, am_A_sA]
      rw [this, upd_s]
    have e0 : (0 : Int32) ||| nI w = nI w := by
      have : ∀ w, w < 4 → (0 : Int32) ||| nI w = nI w := by decide +kernel
      exact this w hw
    rw [nI_clamp (by omega), e3, e0]
    exact k3 c1 c2
/-- the state behind a new pair -/
def sm_pair (σ : am_St) (o f s q : Nat) : am_St := am_sI (am_sA (am_sA (am_sA (am_sA (am_sA (am_sA σ o 4 (upd (am_A σ o 4) q (nI f))) o 5 (upd (am_A σ o 5) q (nI s))) o 8 (upd (am_A σ o 8) q (am_A σ o 7 f))) o 7 (upd (am_A σ o 7) f (nI q))) o 10 (upd (am_A σ o 10) q (am_A σ o 9 s))) o 9 (upd (am_A σ o 9) s (nI q))) o 1 (nI (q + 1))
theorem sm_pair_ok {σ : am_St} {o P q f s : Nat} {st td fs sn : Nat → Nat} (h : am_Sm σ o P q st td fs sn) (hf : f < P) (hs : s < P) (hq : q < 300) : am_Sm (sm_pair σ o f s q) o P (q + 1) st td (am_un fs q f) (am_un sn q s) := by
  obtain ⟨h1, h2, h3, h4, h5, h6, h7, h8, h9, h10⟩ := h
  have eA : ∀ k, k ≠ 4 → k ≠ 5 → k ≠ 7 → k ≠ 8 → k ≠ 9 → k ≠ 10 → am_A (sm_pair σ o f s q) o k = am_A σ o k := fun k c1 c2 c3 c4 c5 c6 => by
    unfold sm_pair
    rw [am_A_sI, am_A_sA, if_neg (fun h => c5 h.1), am_A_sA, if_neg (fun h => c6 h.1), am_A_sA, if_neg (fun h => c3 h.1), am_A_sA, if_neg (fun h => c4 h.1), am_A_sA, if_neg (fun h => c2 h.1), am_A_sA, if_neg (fun h => c1 h.1)]
  have e4 : am_A (sm_pair σ o f s q) o 4 = upd (am_A σ o 4) q (nI f) := by unfold sm_pair; simp [am_A_sI, am_A_sA]
  have e5 : am_A (sm_pair σ o f s q) o 5 = upd (am_A σ o 5) q (nI s) := by unfold sm_pair; simp [am_A_sI, am_A_sA]
  have e8 : am_A (sm_pair σ o f s q) o 8 = upd (am_A σ o 8) q (am_A σ o 7 f) := by unfold sm_pair; simp [am_A_sI, am_A_sA]
  have e7 : am_A (sm_pair σ o f s q) o 7 = upd (am_A σ o 7) f (nI q) := by unfold sm_pair; simp [am_A_sI, am_A_sA]
  have e10 : am_A (sm_pair σ o f s q) o 10 = upd (am_A σ o 10) q (am_A σ o 9 s) := by unfold sm_pair; simp [am_A_sI, am_A_sA]
  have e9 : am_A (sm_pair σ o f s q) o 9 = upd (am_A σ o 9) s (nI q) := by unfold sm_pair; simp [am_A_sI, am_A_sA]
  obtain ⟨a1, a2, a3, a4⟩ := h7
  obtain ⟨b1, b2, b3, b4⟩ := h8
  have lof : ∀ (F : Nat → Nat) (x p n : Nat), n ≤ q → am_lo (am_un F q x) p n = am_lo F p n := fun F x p n hn => am_lo_congr (fun k hk => am_un_n (by omega))
  have lo1 : ∀ (F : Nat → Nat) (x p : Nat), am_lo (am_un F q x) p (q + 1) = if x = p then nI q else am_lo F p q := fun F x p => by
    show (if am_un F q x q = p then nI q else am_lo (am_un F q x) p q) = _
    rw [am_un_s, lof F x p q (Nat.le_refl _)]
  refine ⟨h1, h2, hq, ?_, ?_, fun i hi => ?_, ⟨fun p hp => ?_, fun k hk => ?_, fun k hk => ?_, fun k hk => ?_⟩, ⟨fun p hp => ?_, fun k hk => ?_, fun k hk => ?_, fun k hk => ?_⟩, fun i hi => ?_, fun z hz hzn => ?_⟩
  · unfold sm_pair; simp [am_I_sI, am_I_sA]; exact h4
  · unfold sm_pair; simp [am_I_sI]
  · rw [eA 2 (by decide) (by decide) (by decide) (by decide) (by decide) (by decide), eA 3 (by decide) (by decide) (by decide) (by decide) (by decide) (by decide)]
    exact h6 i hi
  · rw [e7, lo1]
    by_cases c : f = p
    · subst c; rw [upd_s, if_pos rfl]
    · rw [upd_n (fun e => c e.symm), if_neg c]; exact a1 p hp
  · rw [e8]
    by_cases c : k = q
    · subst c; rw [upd_s, am_un_s, lof _ _ _ _ (Nat.le_refl _)]; exact a1 f hf
    · rw [upd_n c, am_un_n c, lof _ _ _ _ (by omega)]; exact a2 k (by omega)
  · rw [e5]
    by_cases c : k = q
    · subst c; rw [upd_s, am_un_s]
    · rw [upd_n c, am_un_n c]; exact a3 k (by omega)
  · by_cases c : k = q
    · subst c; rw [am_un_s, am_un_s]; exact ⟨hf, hs⟩
    · rw [am_un_n c, am_un_n c]; exact a4 k (by omega)
  · rw [e9, lo1]
    by_cases c : s = p
    · subst c; rw [upd_s, if_pos rfl]
    · rw [upd_n (fun e => c e.symm), if_neg c]; exact b1 p hp
  · rw [e10]
    by_cases c : k = q
    · subst c; rw [upd_s, am_un_s, lof _ _ _ _ (Nat.le_refl _)]; exact b1 s hs
    · rw [upd_n c, am_un_n c, lof _ _ _ _ (by omega)]; exact b2 k (by omega)
  · rw [e4]
    by_cases c : k = q
    · subst c; rw [upd_s, am_un_s]
    · rw [upd_n c, am_un_n c]; exact b3 k (by omega)
  · by_cases c : k = q
    · subst c; rw [am_un_s, am_un_s]; exact ⟨hs, hf⟩
    · rw [am_un_n c, am_un_n c]; exact b4 k (by omega)
  · rw [eA 6 (by decide) (by decide) (by decide) (by decide) (by decide) (by decide)]; exact h9 i hi
  · rw [eA 6 (by decide) (by decide) (by decide) (by decide) (by decide) (by decide)]; exact h10 z hz hzn
theorem sp_5_addPair {d o P q f s : Nat} {st td fs sn : Nat → Nat} {σ : am_St} (h : am_Sm σ o P q st td fs sn) (hf : f < P) (hs : s < P) (hq : q < 300) : am_C false ya_5_addPair d [.ref (am_oid o), .int (nI f), .int (nI s)] σ (fun r τ => r = none ∧ τ = sm_pair σ o f s q) := by
  have ho := h.1
  have hP := h.2.1
  have h5 := h.2.2.2.2.1
  have e300 : (300 : Int32) = nI 300 := by decide
  refine am_enter rfl (by simp [Value.category]) (Nat.le_of_ble_eq_true rfl) ?_
  refine kb_5_addPair_0 (kt := fun g => absurd g (nI_pos (by omega))) (kf := fun _ => ?_)
  refine kb_5_addPair_4 (kt := fun g => absurd g (nI_pos (by omega))) (kf := fun _ => ?_)
  refine kb_5_addPair_8 (kt := fun _ => ?_) (kf := fun g => absurd ?_ g)
  · have vq : vp_in (am_I σ o 1) 300 := by rw [h5]; exact vp_in_nI (by omega) (by omega)
    have vf : vp_in (nI f) 200 := vp_in_nI (by omega) (by omega)
    have vs : vp_in (nI s) 200 := vp_in_nI (by omega) (by omega)
    refine kb_5_addPair_19 (hi0 := vq) (hi1 := vq) (hi2 := vf) (hi3 := vq) (hi4 := vf) (hi5 := vs) (hi6 := vq) (hi7 := vs) (hq := ?_)
    rw [h5, nI_clamp (by omega), nI_clamp (by omega), nI_clamp (by omega), nI_1]
    exact ⟨rfl, rfl⟩
  · rw [h5, e300]; exact nI_lt (by omega) (by omega)
/-- Samples.clear -/
def sm_clear (σ : am_St) (o : Nat) : am_St := am_sA (am_sI (am_sI σ o 0 0) o 1 0) o 6 (am_fill 600 (-2) (am_A σ o 6))
theorem sp_5_clear {d o : Nat} (σ : am_St) (ho : am_k false o = 5) : am_C false ya_5_clear (d + 1) [.ref (am_oid o)] σ (fun r τ => r = none ∧ τ = sm_clear σ o) := by
  refine am_enter rfl (by simp [Value.category]) (Nat.le_of_ble_eq_true rfl) ?_
  refine kb_5_clear_0 (hC := sp_fill false d o 6 5 600 (-2) _ ho (by decide) rfl (by decide)) (k := fun r τ hr => ?_)
  obtain ⟨rfl, rfl⟩ := hr
  exact kb_5_clear_19 (hq := ⟨rfl, rfl⟩)
theorem sm_clear_ok (σ : am_St) (o : Nat) (ho : am_k false o = 5) (st td fs sn : Nat → Nat) : am_Sm (sm_clear σ o) o 0 0 st td fs sn := by
  have e6 : am_A (sm_clear σ o) o 6 = am_fill 600 (-2) (am_A σ o 6) := by unfold sm_clear; simp [am_A_sA]
  refine ⟨ho, by decide, by decide, ?_, ?_, fun i hi => absurd hi (Nat.not_lt_zero i), ⟨fun i hi => absurd hi (Nat.not_lt_zero i), fun i hi => absurd hi (Nat.not_lt_zero i), fun i hi => absurd hi (Nat.not_lt_zero i), fun i hi => absurd hi (Nat.not_lt_zero i)⟩, ⟨fun i hi => absurd hi (Nat.not_lt_zero i), fun i hi => absurd hi (Nat.not_lt_zero i), fun i hi => absurd hi (Nat.not_lt_zero i), fun i hi => absurd hi (Nat.not_lt_zero i)⟩, fun i hi => absurd hi (Nat.not_lt_zero i), fun s hs _ => ?_⟩
  · unfold sm_clear; simp [am_I_sA, am_I_sI]; exact nI_0.symm
  · unfold sm_clear; simp [am_I_sA, am_I_sI]; exact nI_0.symm
  · rw [e6]; unfold am_fill; rw [if_pos hs]
