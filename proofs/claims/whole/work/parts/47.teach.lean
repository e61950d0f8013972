/-! the world as the learner sees it; the teacher's searches -/
def am_f4 (a b c e : Bool) : Int32 := am_bI a ||| ((if b = true then 2 else 0) ||| ((if c = true then 4 else 0) ||| (if e = true then 8 else 0)))
theorem am_f4_and (a b c e : Bool) : ((am_f4 a b c e &&& 1 = 0) = (a = false)) ∧ ((am_f4 a b c e &&& 2 = 0) = (b = false)) ∧ ((am_f4 a b c e &&& 4 = 0) = (c = false)) ∧ ((am_f4 a b c e &&& 8 = 0) = (e = false)) := by cases a <;> cases b <;> cases c <;> cases e <;> decide
def am_oI (e : Int32) (x : Option Nat) : Int32 := match x with
  | none => e
  | some t => nI t
def am_Wo (σ : am_St) (N K T : Nat) (tb : Nat → Int32) (fl : Nat → Nat → Bool) (nx : Nat → Nat → Option Nat) : Prop :=
  N ≤ 600 ∧ K ≤ 8 ∧ T ≤ 16 ∧ am_I σ 4 5 = nI N ∧ am_I σ 4 3 = nI K ∧ am_I σ 4 4 = nI T ∧ (∀ s, s < N → am_A σ 4 10 s = tb s ∧ am_A σ 4 9 s = am_f4 (fl s 0) (fl s 1) (fl s 2) (fl s 3)) ∧ ∀ s, s < N → ∀ k, k < K → am_A σ 4 11 (8 * s + k) = am_oI (-2) (nx s k) ∧ ∀ t, nx s k = some t → t < N
theorem am_Wo.same {σ τ : am_St} {N K T : Nat} {tb : Nat → Int32} {fl : Nat → Nat → Bool} {nx : Nat → Nat → Option Nat} (h : am_Wo σ N K T tb fl nx) (hI : ∀ k, am_I τ 4 k = am_I σ 4 k) (hA : ∀ k, am_A τ 4 k = am_A σ 4 k) : am_Wo τ N K T tb fl nx := by
  obtain ⟨h1, h2, h3, h4, h5, h6, h7, h8⟩ := h
  exact ⟨h1, h2, h3, by rw [hI]; exact h4, by rw [hI]; exact h5, by rw [hI]; exact h6, fun s hs => by rw [hA, hA]; exact h7 s hs, fun s hs k hk => by rw [hA]; exact h8 s hs k hk⟩
/-- the first of j numbers from k on with p -/
def am_fd (p : Nat → Bool) : Nat → Nat → Option Nat
  | 0, _ => none
  | j + 1, k => if p k = true then some k else am_fd p j (k + 1)
theorem am_fd_some {p : Nat → Bool} : ∀ (j k : Nat) {x : Nat}, am_fd p j k = some x → k ≤ x ∧ x < k + j ∧ p x = true := by
  intro j
  induction j with
  | zero => intro k x h; cases h
  | succ j ih =>
    intro k x h
    unfold am_fd at h
    split at h
    · rename_i c
      injection h with h
      subst h
      exact ⟨Nat.le_refl _, by omega, c⟩
    · obtain ⟨h1, h2, h3⟩ := ih (k + 1) h
      exact ⟨by omega, by omega, h3⟩
theorem am_fd_none {p : Nat → Bool} : ∀ (j k : Nat), am_fd p j k = none → ∀ x, k ≤ x → x < k + j → p x = false := by
  intro j
  induction j with
  | zero => intro k h x h1 h2; omega
  | succ j ih =>
    intro k h x h1 h2
    unfold am_fd at h
    split at h
    · cases h
    · rename_i c
      by_cases e : x = k
      · subst e; simpa using c
      · exact ih (k + 1) h x (by omega) (by omega)
/-- the k-th state by the order -/
def am_od (order : Bool) (N k : Nat) : Nat := if order = true then N - 1 - k else k
theorem am_od_lt {order : Bool} {N k : Nat} (h : k < N) : am_od order N k < N := by unfold am_od; split <;> omega
def te_fs (order : Bool) (N : Nat) (p : Nat → Bool) : Option Nat := (am_fd (fun k => p (am_od order N k)) N 0).map (am_od order N)
/-- the first step from s to a state that isn't held -/
def te_lv (nx : Nat → Nat → Option Nat) (held : Nat → Bool) (s : Nat) : Nat → Nat → Option Nat
  | 0, _ => none
  | j + 1, k => match nx s k with
    | none => te_lv nx held s j (k + 1)
    | some t => if held t = true then te_lv nx held s j (k + 1) else some t
theorem te_lv_lt {nx : Nat → Nat → Option Nat} {held : Nat → Bool} {s N K : Nat} (h : ∀ k, k < K → ∀ t, nx s k = some t → t < N) : ∀ (j k : Nat) {t : Nat}, k + j = K → te_lv nx held s j k = some t → t < N ∧ held t = false := by
  intro j
  induction j with
  | zero => intro k t _ hh; cases hh
  | succ j ih =>
    intro k t hk hh
    unfold te_lv at hh
    split at hh
    · exact ih (k + 1) (by omega) hh
    · rename_i t' ht'
      split at hh
      · exact ih (k + 1) (by omega) hh
      · rename_i c
        injection hh with hh
        subst hh
        exact ⟨h k (by omega) _ ht', by simpa using c⟩
section TEACH
variable {d L N K T : Nat} {tb : Nat → Int32} {fl : Nat → Nat → Bool} {nx : Nat → Nat → Option Nat} {order : Bool} {σ : am_St} {held : Nat → Bool}
theorem le_lk (hL : L = 6 ∨ L = 7) : am_k false L = 1 ∧ am_lk L 0 = 4 ∧ am_lk L 1 = 5 ∧ am_lk L 2 = L + 2 ∧ am_k false (am_lk L 0) = 9 ∧ am_k false (am_lk L 1) = 0 ∧ am_k false (am_lk L 2) = 5 := by rcases hL with rfl | rfl <;> decide
theorem sp_1_inOrder (hL : L = 6 ∨ L = 7) (hW : am_Wo σ N K T tb fl nx) (ho : am_I σ L 7 = am_bI order) {k : Nat} (hk : k < N) : am_C false ya_1_inOrder d [.ref (am_oid L), .int (nI k)] σ (fun r τ => τ = σ ∧ r = some (.int (nI (am_od order N k)))) := by
  obtain ⟨c1, e0, e1, e2, c9, -, -⟩ := le_lk hL
  obtain ⟨h1, -, -, h4, -⟩ := hW
  refine am_enter rfl (by simp [Value.category]) (Nat.le_of_ble_eq_true rfl) ?_
  refine kb_1_inOrder_0 (kt := fun z => ?_) (kf := fun z => ?_)
  · rw [ho] at z
    refine kb_1_inOrder_11 (k := kb_1_inOrder_22 ⟨rfl, ?_⟩)
    cases order
    · exact absurd rfl z
    · rw [e0, h4, show (1 : Int32) = nI 1 from rfl, nI_sub (by omega), nI_sub (by omega)]; rfl
  · rw [ho] at z
    refine kb_1_inOrder_7 (k := kb_1_inOrder_22 ⟨rfl, ?_⟩)
    cases order
    · rfl
    · exact absurd z (by decide)
/-- which bit of the flags -/
def te_w (w : Nat) : Int32 := if w = 0 then 1 else 2
theorem sp_1_firstLabelled (hL : L = 6 ∨ L = 7) (hW : am_Wo σ N K T tb fl nx) (ho : am_I σ L 7 = am_bI order) (hh : ∀ s, s < N → am_A σ L 5 s = am_bI (held s)) {w : Nat} (hw : w < 2) (ih : Bool) : am_C false ya_1_firstLabelled (d + 1) [.ref (am_oid L), .int (te_w w), .int (am_bI ih)] σ (fun r τ => τ = σ ∧ r = some (.int (am_oI (-1) (te_fs order N (fun s => fl s w && (held s == ih)))))) := by
  obtain ⟨c1, e0, e1, e2, c9, -, -⟩ := le_lk hL
  have hW' := hW
  obtain ⟨h1, -, -, h4, -, -, h7, -⟩ := hW'
  obtain ⟨p, hp⟩ : ∃ p : Nat → Bool, p = fun s => fl s w && (held s == ih) := ⟨_, rfl⟩
  rw [← hp]
  have loop : ∀ (j k : Nat), k + j = N → ∀ a4 : Option Value, am_T false ya_1_firstLabelled (d + 1) (fun r τ => τ = σ ∧ r = some (.int (am_oI (-1) ((am_fd (fun k => p (am_od order N k)) j k).map (am_od order N))))) 2 [some (.ref (am_oid L)), some (.int (te_w w)), some (.int (am_bI ih)), some (.int (nI k)), a4] [] σ := by
    intro j
    induction j with
    | zero =>
      intro k hk a4
      refine kb_1_firstLabelled_2 (kt := fun _ => kb_1_firstLabelled_55 ⟨rfl, rfl⟩) (kf := fun z => absurd ?_ z)
      rw [e0, h4]; exact nI_le (by omega) (by omega)
    | succ j ihj =>
      intro k hk a4
      have hk2 : k < N := by omega
      have hod := am_od_lt (order := order) hk2
      refine kb_1_firstLabelled_2 (kt := fun z => absurd z ?_) (kf := fun _ => ?_)
      · rw [e0, h4]; exact nI_ge hk2 (by omega)
      refine kb_1_firstLabelled_13 (hC := sp_1_inOrder hL hW ho hk2) (k := fun r τ hr => ?_)
      obtain ⟨rfl, rfl⟩ := hr
      have v : vp_in (nI (am_od order N k)) 600 := vp_in_nI (by omega) (by omega)
      have eF : am_A τ (am_lk L 0) 9 (nI (am_od order N k)).toNatClampNeg = am_f4 (fl (am_od order N k) 0) (fl (am_od order N k) 1) (fl (am_od order N k) 2) (fl (am_od order N k) 3) := by rw [e0, nI_clamp (by omega)]; exact (h7 _ hod).2
      have eB : ((am_f4 (fl (am_od order N k) 0) (fl (am_od order N k) 1) (fl (am_od order N k) 2) (fl (am_od order N k) 3) &&& te_w w) = 0) = (fl (am_od order N k) w = false) := by
        rcases (show w = 0 ∨ w = 1 by omega) with rfl | rfl
        · exact (am_f4_and _ _ _ _).1
        · exact (am_f4_and _ _ _ _).2.1
      have nextp : p (am_od order N k) = false → ∀ b4 : Option Value, am_T false ya_1_firstLabelled (d + 1) (fun r τ' => τ' = τ ∧ r = some (.int (am_oI (-1) ((am_fd (fun k => p (am_od order N k)) (j + 1) k).map (am_od order N))))) 49 [some (.ref (am_oid L)), some (.int (te_w w)), some (.int (am_bI ih)), some (.int (nI k)), b4] [] τ := by
        intro hpf b4
        refine kb_1_firstLabelled_49 (k := ?_)
        rw [nI_1]
        have e : am_fd (fun k => p (am_od order N k)) (j + 1) k = am_fd (fun k => p (am_od order N k)) j (k + 1) := by
          show (if p (am_od order N k) = true then _ else _) = _
          rw [hpf]; rfl
        rw [e]
        exact ihj (k + 1) (by omega) b4
      refine kb_1_firstLabelled_18 (hi1 := v) (kt := fun z => ?_) (kf := fun z => ?_)
      · rw [eF, eB] at z
        exact nextp (by rw [hp]; simp [z]) _
      · rw [eF, eB] at z
        have z' : fl (am_od order N k) w = true := by simpa using z
        refine kb_1_firstLabelled_35 (hi0 := v) (kt := fun y => ?_) (kf := fun y => ?_)
        · rw [nI_clamp (by omega), hh _ hod, am_bI_inj] at y
          exact nextp (by rw [hp]; simp [y]) _
        · rw [nI_clamp (by omega), hh _ hod, am_bI_inj] at y
          refine kb_1_firstLabelled_46 ⟨rfl, ?_⟩
          have e : am_fd (fun k => p (am_od order N k)) (j + 1) k = some k := by
            show (if p (am_od order N k) = true then _ else _) = _
            rw [if_pos (by rw [hp]; simp [z', y])]
          rw [e]; rfl
  exact am_enter rfl (by simp [Value.category]) (Nat.le_of_ble_eq_true rfl) (kb_1_firstLabelled_0 (k := loop N 0 (by omega) _))
theorem am_oI_neg {x : Option Nat} {N : Nat} (h : ∀ t, x = some t → t < N) (hN : N ≤ 600) (e : Int32) (he : e < 0) : (am_oI e x < 0) = (x = none) := by
  cases x with
  | none => simp [am_oI, he]
  | some t =>
    have := h t rfl
    have hh : ¬ nI t < 0 := nI_pos (by omega)
    simp [am_oI, hh]
theorem sp_1_leavingTarget (hL : L = 6 ∨ L = 7) (hW : am_Wo σ N K T tb fl nx) (hh : ∀ s, s < N → am_A σ L 5 s = am_bI (held s)) {s : Nat} (hs : s < N) : am_C false ya_1_leavingTarget d [.ref (am_oid L), .int (nI s)] σ (fun r τ => τ = σ ∧ r = some (.int (am_oI (-1) (if held s = true then te_lv nx held s K 0 else none)))) := by
  obtain ⟨c1, e0, e1, e2, c9, -, -⟩ := le_lk hL
  obtain ⟨h1, h2, -, -, h5, -, -, h8⟩ := hW
  have v : vp_in (nI s) 600 := vp_in_nI (by omega) (by omega)
  have loop : held s = true → ∀ (j k : Nat), k + j = K → ∀ a3 : Option Value, am_T false ya_1_leavingTarget d (fun r τ => τ = σ ∧ r = some (.int (am_oI (-1) (te_lv nx held s j k)))) 13 [some (.ref (am_oid L)), some (.int (nI s)), some (.int (nI k)), a3] [] σ := by
    intro hhs j
    induction j with
    | zero =>
      intro k hk a3
      refine kb_1_leavingTarget_13 (kt := fun _ => kb_1_leavingTarget_60 ⟨rfl, rfl⟩) (kf := fun z => absurd ?_ z)
      rw [e0, h5]; exact nI_le (by omega) (by omega)
    | succ j ih =>
      intro k hk a3
      obtain ⟨g1, g2⟩ := h8 s hs k (by omega)
      have ei : nI s * 8 + nI k = nI (8 * s + k) := by rw [show (8 : Int32) = nI 8 from rfl, nI_mul, nI_add, Nat.mul_comm]
      have eT : am_A σ (am_lk L 0) 11 (nI s * 8 + nI k).toNatClampNeg = am_oI (-2) (nx s k) := by rw [e0, ei, nI_clamp (by omega)]; exact g1
      refine kb_1_leavingTarget_13 (kt := fun z => absurd z ?_) (kf := fun _ => ?_)
      · rw [e0, h5]; exact nI_ge (by omega) (by omega)
      refine kb_1_leavingTarget_24 (hi0 := by rw [ei]; exact vp_in_nI (by omega) (by omega)) (kt := fun z => ?_) (kf := fun z => ?_)
      · rw [eT, am_oI_neg g2 h1 _ am_neg2] at z
        refine kb_1_leavingTarget_54 (k := ?_)
        rw [nI_1]
        have e : te_lv nx held s (j + 1) k = te_lv nx held s j (k + 1) := by
          show (match nx s k with | none => _ | some t => _) = _
          rw [z]
        rw [e]
        exact ih (k + 1) (by omega) _
      · rw [eT, am_oI_neg g2 h1 _ am_neg2] at z
        rw [eT]
        cases hx : nx s k with
        | none => exact absurd hx z
        | some t =>
          have ht := g2 t hx
          have e : te_lv nx held s (j + 1) k = if held t = true then te_lv nx held s j (k + 1) else some t := by
            show (match nx s k with | none => _ | some t => _) = _
            rw [hx]
          rw [e]
          show am_T _ _ _ _ _ [_, _, _, some (.int (nI t))] _ _
          refine kb_1_leavingTarget_43 (hi0 := vp_in_nI (by omega) (by omega)) (kt := fun y => ?_) (kf := fun y => ?_)
          · rw [nI_clamp (by omega), hh t ht] at y
            have y' : held t = true := by cases c : held t; rw [c] at y; exact absurd rfl y; rfl
            refine kb_1_leavingTarget_54 (k := ?_)
            rw [nI_1, if_pos y']
            exact ih (k + 1) (by omega) _
          · rw [nI_clamp (by omega), hh t ht] at y
            have y' : ¬ held t = true := fun c => by rw [c] at y; exact absurd y (by decide)
            rw [if_neg y']
            exact kb_1_leavingTarget_52 ⟨rfl, rfl⟩
  refine am_enter rfl (by simp [Value.category]) (Nat.le_of_ble_eq_true rfl) ?_
  refine kb_1_leavingTarget_0 (hi0 := v) (kt := fun z => ?_) (kf := fun z => ?_)
  · rw [nI_clamp (by omega), hh s hs] at z
    have z' : held s = true := by cases c : held s; rw [c] at z; exact absurd rfl z; rfl
    rw [if_pos z']
    exact kb_1_leavingTarget_11 (k := loop z' K 0 (by omega) _)
  · rw [nI_clamp (by omega), hh s hs] at z
    have z' : ¬ held s = true := fun c => by rw [c] at z; exact absurd z (by decide)
    rw [if_neg z']
    exact kb_1_leavingTarget_9 ⟨rfl, rfl⟩
end TEACH
