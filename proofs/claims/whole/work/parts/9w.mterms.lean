/-! the reference reads: one token on, faults, variables, terms, sums -/
def rr_C (σ : am_St) (tc : Nat → Nat) (n : Nat) : Prop := n ≤ 900 ∧ am_I σ 16 6 = nI n ∧ (∀ i, i < n → am_A σ 16 1 i = nI (tc i)) ∧ ∀ i, tc i < 256
def rr_K (σ : am_St) (tc : Nat → Nat) (n i : Nat) : Prop := rr_C σ tc n ∧ rt_t σ (tk_s tc n i) ∧ am_I σ 16 12 = 0
def rr_N (σ : am_St) (nv : Nat) (nm : Nat → Nat) : Prop := am_A σ 16 4 0 = nI nv ∧ nv ≤ 3 ∧ ∀ v, v < nv → am_A σ 16 5 v = nI (ph 6 (nm v)) ∧ nm v < 387420489 ∧ pa_lg (nm v) = false
def rr_R {X : Type} (res : pa_F ⊕ X) (ok : X → am_St → Prop) (τ : am_St) : Prop := match res with
  | .inl e => am_I τ 16 12 = nI e.1 ∧ am_I τ 16 13 = nI e.2
  | .inr x => ok x τ
abbrev mo_XF := mo_Fm [7, 8, 9, 10, 11, 12, 13] [4]
section MTERM
variable {d n i nv : Nat} {tc nm : Nat → Nat} {σ : am_St}
theorem tk_e_le {p : Nat → Bool} {a : Nat} (ha : a ≤ n) : tk_e tc p n a ≤ n := (tk_rn_ge (n - a) a).2.1 ha
theorem tk_at_le (a : Nat) : (tk_at tc n a).2.2.1 ≤ n := by
  unfold tk_at
  split
  · rename_i h
    unfold tk_at1
    split
    · exact tk_e_le (Nat.le_of_lt h)
    · split
      · exact tk_e_le (Nat.le_of_lt h)
      · exact h
  · exact Nat.le_refl _
theorem tk_s_le (i : Nat) : (tk_s tc n i).2.2.1 ≤ n := by
  cases i with
  | zero => exact tk_at_le 0
  | succ i => exact tk_at_le _
theorem rr_C.cg {τ : am_St} (h : rr_C σ tc n) (h6 : am_I τ 16 6 = am_I σ 16 6) (h1 : am_A τ 16 1 = am_A σ 16 1) : rr_C τ tc n := ⟨h.1, h6.trans h.2.1, by rw [h1]; exact h.2.2.1, h.2.2.2⟩
theorem rr_C.fm {τ : am_St} (h : rr_C σ tc n) (F : mo_XF σ τ) : rr_C τ tc n := h.cg (F.1 6 rfl) (F.2 1 rfl)
theorem rr_N.cg {τ : am_St} (h : rr_N σ nv nm) (h4 : am_A τ 16 4 0 = am_A σ 16 4 0) (h5 : am_A τ 16 5 = am_A σ 16 5) : rr_N τ nv nm := ⟨h4.trans h.1, h.2.1, by rw [h5]; exact h.2.2⟩
theorem mo_Fm.kr {τ : am_St} (h : mo_KF σ τ) : mo_XF σ τ := h.wid rfl rfl
theorem rr_K.sA {f : Nat → Int32} (h : rr_K σ tc n i) : rr_K (am_sA σ 16 4 f) tc n i := ⟨h.1.cg rfl (by rw [am_A_sA, if_neg (by simp)]), h.2.1, h.2.2⟩
theorem sp_11_wrongAt_0 (h : am_I σ 16 12 = 0) (k w : Int32) : am_C true ya_11_wrongAt d [.ref (am_oid 16), .int k, .int w] σ (fun r τ => r = none ∧ τ = am_sI (am_sI σ 16 12 k) 16 13 w) :=
  am_enter rfl (by simp [Value.category]) (Nat.le_of_ble_eq_true rfl) (kb_11_wrongAt_0 (kt := fun _ => kb_11_wrongAt_8 ⟨rfl, rfl⟩) (kf := fun z => absurd h z))
theorem sp_11_wrongAt_f (h : ¬ am_I σ 16 12 = 0) (k w : Int32) : am_C true ya_11_wrongAt d [.ref (am_oid 16), .int k, .int w] σ (fun r τ => r = none ∧ τ = σ) :=
  am_enter rfl (by simp [Value.category]) (Nat.le_of_ble_eq_true rfl) (kb_11_wrongAt_0 (kf := fun _ => kb_11_wrongAt_7 ⟨rfl, rfl⟩) (kt := fun z => absurd z h))
theorem sp_11_wrong_0 (h : am_I σ 16 12 = 0) (k : Int32) : am_C true ya_11_wrong (d + 1) [.ref (am_oid 16), .int k] σ (fun r τ => r = none ∧ τ = am_sI (am_sI σ 16 12 k) 16 13 (am_I σ 16 8)) := by
  refine am_enter rfl (by simp [Value.category]) (Nat.le_of_ble_eq_true rfl) (kb_11_wrong_0 (hC := sp_11_wrongAt_0 h k _) (k := fun r τ hr => ?_))
  obtain ⟨rfl, rfl⟩ := hr
  exact kb_11_wrong_9 ⟨rfl, rfl⟩
theorem sp_11_wrong_f (h : ¬ am_I σ 16 12 = 0) (k : Int32) : am_C true ya_11_wrong (d + 1) [.ref (am_oid 16), .int k] σ (fun r τ => r = none ∧ τ = σ) := by
  refine am_enter rfl (by simp [Value.category]) (Nat.le_of_ble_eq_true rfl) (kb_11_wrong_0 (hC := sp_11_wrongAt_f h k _) (k := fun r τ hr => ?_))
  obtain ⟨rfl, rfl⟩ := hr
  exact kb_11_wrong_9 ⟨rfl, rfl⟩
/-- what is behind a fault -/
theorem rr_w {X : Type} {ok : X → am_St → Prop} {k w : Nat} (hk : k = 1 ∨ k = 2 ∨ k = 3) : rr_R (.inl (k, w)) ok (am_sI (am_sI σ 16 12 (nI k)) 16 13 (nI w)) ∧ mo_XF σ (am_sI (am_sI σ 16 12 (nI k)) 16 13 (nI w)) ∧ (∀ j, am_A (am_sI (am_sI σ 16 12 (nI k)) 16 13 (nI w)) 16 j = am_A σ 16 j) ∧ ¬ am_I (am_sI (am_sI σ 16 12 (nI k)) 16 13 (nI w)) 16 12 = 0 := by
  have e12 : am_I (am_sI (am_sI σ 16 12 (nI k)) 16 13 (nI w)) 16 12 = nI k := by rw [am_I_sI, if_neg (by simp), am_I_sI, if_pos ⟨rfl, rfl⟩]
  refine ⟨⟨e12, by rw [am_I_sI, if_pos ⟨rfl, rfl⟩]⟩, (mo_Fm.rf.sI (by rfl) _).sI (by rfl) _, fun _ => rfl, ?_⟩
  rw [e12]
  exact nI_ne0 (by omega) (by omega)
theorem sp_11_goOn_0 (h : rr_K σ tc n i) : am_C true ya_11_goOn (d + 6) [.ref (am_oid 16)] σ (fun r τ => r = none ∧ mo_KF σ τ ∧ rr_K τ tc n (i + 1)) := by
  refine am_enter rfl (by simp [Value.category]) (Nat.le_of_ble_eq_true rfl) ?_
  refine kb_11_goOn_0 (kt := fun z => absurd h.2.2 z) (kf := fun _ => ?_)
  refine kb_11_goOn_7 (hC := sp_11_token (d := d) (a := (tk_s tc n i).2.2.1) h.1.1 h.1.2.2.2 h.1.2.1 h.2.1.1 (tk_s_le i) h.1.2.2.1) (k := fun r τ hr => ?_)
  obtain ⟨rfl, F, ht⟩ := hr
  exact kb_11_goOn_11 ⟨rfl, F, h.1.cg (F.1 6 rfl) (F.2 1 rfl), ht, (F.1 12 rfl).trans h.2.2⟩
theorem sp_11_goOn_f (h : ¬ am_I σ 16 12 = 0) : am_C true ya_11_goOn d [.ref (am_oid 16)] σ (fun r τ => r = none ∧ τ = σ) :=
  am_enter rfl (by simp [Value.category]) (Nat.le_of_ble_eq_true rfl) (kb_11_goOn_0 (kt := fun _ => kb_11_goOn_11 ⟨rfl, rfl⟩) (kf := fun z => absurd z h))
theorem rs_k_2 {k : Nat} : (rs_k k = 2) = (4 ≤ k) := by
  unfold rs_k
  by_cases h0 : k = 0
  · rw [if_pos h0]; exact propext ⟨fun z => absurd z (by decide), fun z => by omega⟩
  · rw [if_neg h0]
    by_cases h1 : k = 1
    · rw [if_pos h1]; exact propext ⟨fun z => absurd z (by decide), fun z => by omega⟩
    · rw [if_neg h1]
      by_cases h2 : k = 2
      · rw [if_pos h2]; exact propext ⟨fun z => absurd z (by decide), fun z => by omega⟩
      · rw [if_neg h2]
        by_cases h3 : k = 3
        · rw [if_pos h3]; exact propext ⟨fun z => absurd z (by decide), fun z => by omega⟩
        · rw [if_neg h3]; exact propext ⟨fun _ => by omega, fun _ => rfl⟩
theorem rs_k_0 {k : Nat} : (rs_k k = 0) = (k = 1) := by
  unfold rs_k
  by_cases h0 : k = 0
  · rw [if_pos h0]; exact propext ⟨fun z => absurd z (by decide), fun z => by omega⟩
  · rw [if_neg h0]
    by_cases h1 : k = 1
    · rw [if_pos h1]; exact propext ⟨fun _ => h1, fun _ => rfl⟩
    · rw [if_neg h1]
      by_cases h2 : k = 2
      · rw [if_pos h2]; exact propext ⟨fun z => absurd z (by decide), fun z => by omega⟩
      · rw [if_neg h2]
        by_cases h3 : k = 3
        · rw [if_pos h3]; exact propext ⟨fun z => absurd z (by decide), fun z => by omega⟩
        · rw [if_neg h3]; exact propext ⟨fun z => absurd z (by decide), fun z => by omega⟩
theorem rs_k_1 {k : Nat} : (rs_k k = 1) = (k = 2) := by
  unfold rs_k
  by_cases h0 : k = 0
  · rw [if_pos h0]; exact propext ⟨fun z => absurd z (by decide), fun z => by omega⟩
  · rw [if_neg h0]
    by_cases h1 : k = 1
    · rw [if_pos h1]; exact propext ⟨fun z => absurd z (by decide), fun z => by omega⟩
    · rw [if_neg h1]
      by_cases h2 : k = 2
      · rw [if_pos h2]; exact propext ⟨fun _ => h2, fun _ => rfl⟩
      · rw [if_neg h2]
        by_cases h3 : k = 3
        · rw [if_pos h3]; exact propext ⟨fun z => absurd z (by decide), fun z => by omega⟩
        · rw [if_neg h3]; exact propext ⟨fun z => absurd z (by decide), fun z => by omega⟩
theorem rs_k_3 {k : Nat} : (rs_k k = 3) = (k = 0) := by
  unfold rs_k
  by_cases h0 : k = 0
  · rw [if_pos h0]; exact propext ⟨fun _ => h0, fun _ => rfl⟩
  · rw [if_neg h0]
    by_cases h1 : k = 1
    · rw [if_pos h1]; exact propext ⟨fun z => absurd z (by decide), fun z => by omega⟩
    · rw [if_neg h1]
      by_cases h2 : k = 2
      · rw [if_pos h2]; exact propext ⟨fun z => absurd z (by decide), fun z => by omega⟩
      · rw [if_neg h2]
        by_cases h3 : k = 3
        · rw [if_pos h3]; exact propext ⟨fun z => absurd z (by decide), fun z => by omega⟩
        · rw [if_neg h3]; exact propext ⟨fun z => absurd z (by decide), fun z => by omega⟩
theorem sp_11_isSign_0 {c : Nat} (h : rr_K σ tc n i) (hc : 4 ≤ c) (hc2 : c < 256) : am_C true ya_11_isSign d [.ref (am_oid 16), .int (nI c)] σ (fun r τ => τ = σ ∧ r = some (.int (am_bI (decide ((tk_s tc n i).1 = c))))) := by
  obtain ⟨hC, ⟨t1, t2, t3, t4, t5, t6⟩, h12⟩ := h
  have hB := (tk_s_B (tc := tc) hC.1 i).1
  refine am_enter rfl (by simp [Value.category]) (Nat.le_of_ble_eq_true rfl) ?_
  have no : ¬ (tk_s tc n i).1 = c → am_T true ya_11_isSign d (fun r τ => τ = σ ∧ r = some (.int (am_bI (decide ((tk_s tc n i).1 = c))))) 27 [some (.ref (am_oid 16)), some (.int (nI c))] [] σ := fun z => by
    rw [decide_eq_false z]
    exact kb_11_isSign_27 (k := kb_11_isSign_28 (hb0 := rfl) (hq := ⟨rfl, rfl⟩))
  refine kb_11_isSign_0 (kt := fun z => absurd h12 z) (kf := fun _ => ?_)
  refine kb_11_isSign_7 (kt := fun z => no (fun w => z (by rw [t3, rs_k_2]; omega))) (kf := fun z => ?_)
  rw [t3, rs_k_2] at z
  have t10 := t6 z
  refine kb_11_isSign_15 (kt := fun w => no (fun y => w (by rw [t10, y]))) (kf := fun w => ?_)
  rw [t10] at w
  rw [decide_eq_true (nI_inj (by omega) (by omega) w)]
  exact kb_11_isSign_23 (k := kb_11_isSign_28 (hb0 := rfl) (hq := ⟨rfl, rfl⟩))
theorem sp_11_isSign_f (h : ¬ am_I σ 16 12 = 0) (c : Int32) : am_C true ya_11_isSign d [.ref (am_oid 16), .int c] σ (fun r τ => τ = σ ∧ r = some (.int 0)) :=
  am_enter rfl (by simp [Value.category]) (Nat.le_of_ble_eq_true rfl) (kb_11_isSign_0 (kt := fun _ => kb_11_isSign_27 (k := kb_11_isSign_28 (hb0 := rfl) (hq := ⟨rfl, rfl⟩))) (kf := fun z => absurd z h))
theorem sp_11_isWord_0 {w : Nat} {x : Int32} (h : rr_K σ tc n i) (hw : ∀ u, (wh_n u = x) = (u = w)) : am_C true ya_11_isWord d [.ref (am_oid 16), .int x] σ (fun r τ => τ = σ ∧ r = some (.int (am_bI (pa_w w (tk_s tc n i))))) := by
  obtain ⟨hC, ⟨t1, t2, t3, t4, t5, t6⟩, h12⟩ := h
  refine am_enter rfl (by simp [Value.category]) (Nat.le_of_ble_eq_true rfl) ?_
  have no : ¬ ((tk_s tc n i).1 = 1 ∧ (tk_s tc n i).2.2.2 = w) → am_T true ya_11_isWord d (fun r τ => τ = σ ∧ r = some (.int (am_bI (pa_w w (tk_s tc n i))))) 26 [some (.ref (am_oid 16)), some (.int x)] [] σ := fun z => by
    unfold pa_w
    rw [decide_eq_false z]
    exact kb_11_isWord_26 (k := kb_11_isWord_27 (hb0 := rfl) (hq := ⟨rfl, rfl⟩))
  refine kb_11_isWord_0 (kt := fun z => absurd h12 z) (kf := fun _ => ?_)
  refine kb_11_isWord_7 (kt := fun z => no (fun y => z (by rw [t3, rs_k_0]; exact y.1))) (kf := fun z => ?_)
  rw [t3, rs_k_0] at z
  have t10 := (t4 z).1
  refine kb_11_isWord_14 (kt := fun y => no (fun q => y (by rw [t10, hw]; exact q.2))) (kf := fun y => ?_)
  rw [t10, hw] at y
  unfold pa_w
  rw [decide_eq_true ⟨z, y⟩]
  exact kb_11_isWord_22 (k := kb_11_isWord_27 (hb0 := rfl) (hq := ⟨rfl, rfl⟩))
theorem sp_11_isWord_f (h : ¬ am_I σ 16 12 = 0) (c : Int32) : am_C true ya_11_isWord d [.ref (am_oid 16), .int c] σ (fun r τ => τ = σ ∧ r = some (.int 0)) :=
  am_enter rfl (by simp [Value.category]) (Nat.le_of_ble_eq_true rfl) (kb_11_isWord_0 (kt := fun _ => kb_11_isWord_26 (k := kb_11_isWord_27 (hb0 := rfl) (hq := ⟨rfl, rfl⟩))) (kf := fun z => absurd z h))
theorem pa_ix_at {w v : Nat} (h0 : pa_ix nm w v = none) (h1 : nm v = w) : ∀ k, v < k → pa_ix nm w k = some v := by
  intro k
  induction k with
  | zero => intro h; exact absurd h (Nat.not_lt_zero _)
  | succ k ih =>
    intro h
    by_cases q : v = k
    · subst q
      show (match pa_ix nm w v with
        | some u => some u
        | none => if nm v = w then some v else none) = some v
      rw [h0]
      exact if_pos h1
    · show (match pa_ix nm w k with
        | some u => some u
        | none => if nm k = w then some k else none) = some v
      rw [ih (by omega)]
theorem wh_n_lg (w : Nat) : (wh_n w = -1) = (pa_lg w = false) := by
  unfold wh_n pa_lg
  refine propext ⟨fun h => decide_eq_false (fun z => ?_), fun h => ?_⟩
  · rcases z with z | z | z | z | z | z | z | z <;> subst z <;> exact absurd h (by decide)
  · have z := of_decide_eq_false h
    rw [if_neg (by omega), if_neg (by omega), if_neg (by omega), if_neg (by omega), if_neg (by omega), if_neg (by omega), if_neg (by omega), if_neg (by omega)]
theorem sp_11_variable_0 (h : rr_K σ tc n i) (hN : rr_N σ nv nm) : am_C true ya_11_variable d [.ref (am_oid 16)] σ (fun r τ => τ = σ ∧ r = some (.int (am_oI (-1) (pa_v nv nm (tk_s tc n i))))) := by
  obtain ⟨hC, ⟨t1, t2, t3, t4, t5, t6⟩, h12⟩ := h
  obtain ⟨n0, n3, nn⟩ := hN
  have hB := (tk_s_B (tc := tc) hC.1 i).2.2
  refine am_enter rfl (by simp [Value.category]) (Nat.le_of_ble_eq_true rfl) ?_
  have no : pa_v nv nm (tk_s tc n i) = none → ∀ a1 : Option Value, am_T true ya_11_variable d (fun r τ => τ = σ ∧ r = some (.int (am_oI (-1) (pa_v nv nm (tk_s tc n i))))) 22 [some (.ref (am_oid 16)), a1] [] σ := fun z a1 => by
    rw [z]; exact kb_11_variable_22 ⟨rfl, rfl⟩
  refine kb_11_variable_0 (kt := fun z => absurd h12 z) (kf := fun _ => ?_)
  by_cases k1 : (tk_s tc n i).1 = 1
  · obtain ⟨t10, t11⟩ := t4 k1
    obtain ⟨w, hw⟩ : ∃ w, w = (tk_s tc n i).2.2.2 := ⟨_, rfl⟩
    rw [← hw] at hB t10 t11
    have ev : pa_v nv nm (tk_s tc n i) = pa_ix nm w nv := by unfold pa_v; rw [if_pos k1, hw]
    rw [ev] at no ⊢
    have e27 : (27 : Nat) ^ 6 = 387420489 := by decide
    have inj : ∀ v, v < nv → (nI (ph 6 (nm v)) = nI (ph 6 w)) = (nm v = w) := fun v hv => by
      have := (nn v hv).2.1
      have l1 := ph_lt 6 (nm v)
      have l2 := ph_lt 6 w
      have e32 : (32 : Nat) ^ 6 = 1073741824 := by decide
      exact propext ⟨fun z => ph_inj 6 (by omega) (by omega) (nI_inj (by omega) (by omega) z), fun z => by rw [z]⟩
    refine kb_11_variable_7 (kt := fun z => absurd (by rw [t3, rs_k_0]; exact k1) z) (kf := fun _ => ?_)
    have loop : ∀ (j v : Nat), v + j = nv → pa_ix nm w v = none → am_T true ya_11_variable d (fun r τ => τ = σ ∧ r = some (.int (am_oI (-1) (pa_ix nm w nv)))) 26 [some (.ref (am_oid 16)), some (.int (nI v))] [] σ := by
      intro j
      induction j with
      | zero =>
        intro v hv h0
        have : v = nv := by omega
        subst this
        rw [h0]
        exact kb_11_variable_26 (kf := fun z => absurd (by rw [n0]; exact nI_le (Nat.le_refl _) (by omega)) z) (kt := fun _ => kb_11_variable_57 ⟨rfl, rfl⟩)
      | succ j ih =>
        intro v hv h0
        have cl : (nI v).toNatClampNeg = v := nI_clamp (by omega)
        have e5 : (am_A σ 16 5 (nI v).toNatClampNeg = am_I σ 16 11) = (nm v = w) := by rw [cl, (nn v (by omega)).1, t11, inj v (by omega)]
        refine kb_11_variable_26 (kt := fun z => absurd z (by rw [n0]; exact nI_ge (by omega) (by omega))) (kf := fun _ => ?_)
        by_cases q : nm v = w
        · rw [pa_ix_at h0 q nv (by omega)]
          exact kb_11_variable_36 (hi0 := vp_in_nI (by omega) (by decide)) (kt := fun z => absurd (e5.mpr q) z) (kf := fun _ => kb_11_variable_49 ⟨rfl, rfl⟩)
        · refine kb_11_variable_36 (hi0 := vp_in_nI (by omega) (by decide)) (kf := fun z => absurd (e5.mp z) q) (kt := fun _ => kb_11_variable_51 (k := ?_))
          rw [nI_1]
          refine ih (v + 1) (by omega) ?_
          show (match pa_ix nm w v with
            | some u => some u
            | none => if nm v = w then some v else none) = none
          rw [h0]
          exact if_neg q
    refine kb_11_variable_14 (kt := fun _ => kb_11_variable_24 (k := loop nv 0 (by omega) rfl)) (kf := fun z => no ?_ _)
    cases ex : pa_ix nm w nv with
    | none => rfl
    | some v =>
      have hx := pa_ix_lt ex
      have hl := (nn v hx.1).2.2
      rw [hx.2] at hl
      exact absurd (by rw [t10, wh_n_lg]; exact hl) z
  · exact kb_11_variable_7 (kf := fun z => absurd (by rw [t3, rs_k_0] at z; exact z) k1) (kt := fun _ => no (by unfold pa_v; rw [if_neg k1]) _)
theorem sp_11_variable_f (h : ¬ am_I σ 16 12 = 0) : am_C true ya_11_variable d [.ref (am_oid 16)] σ (fun r τ => τ = σ ∧ r = some (.int (-1))) :=
  am_enter rfl (by simp [Value.category]) (Nat.le_of_ble_eq_true rfl) (kb_11_variable_0 (kt := fun _ => kb_11_variable_22 ⟨rfl, rfl⟩) (kf := fun z => absurd z h))
theorem pa_oI_m {x : Option Nat} (h : ∀ v, x = some v → v < 2 ^ 31) : (am_oI (-1) x = -1) = (x = none) := by
  cases x with
  | none => exact propext ⟨fun _ => rfl, fun _ => rfl⟩
  | some v => exact propext ⟨fun z => absurd z (nI_neg1 v (h v rfl)), fun z => by cases z⟩
theorem rr_vb (hn : nv ≤ 3) : ∀ v, pa_v nv nm (tk_s tc n i) = some v → v < 2 ^ 31 := fun v hv => by
  have := (pa_v_lt hv).1
  omega
theorem sp_11_isTermHere_0 (h : rr_K σ tc n i) (hN : rr_N σ nv nm) : am_C true ya_11_isTermHere (d + 1) [.ref (am_oid 16)] σ (fun r τ => τ = σ ∧ r = some (.int (am_bI (pa_bt (tk_s tc n) nv nm i)))) := by
  have t3 := h.2.1.2.2.1
  refine am_enter rfl (by simp [Value.category]) (Nat.le_of_ble_eq_true rfl) ?_
  have yes : pa_bt (tk_s tc n) nv nm i = true → am_T true ya_11_isTermHere (d + 1) (fun r τ => τ = σ ∧ r = some (.int (am_bI (pa_bt (tk_s tc n) nv nm i)))) 23 [some (.ref (am_oid 16))] [] σ := fun z => by
    rw [z]; exact kb_11_isTermHere_23 (k := kb_11_isTermHere_28 (hb0 := rfl) (hq := ⟨rfl, rfl⟩))
  refine kb_11_isTermHere_0 (kt := fun z => absurd h.2.2 z) (kf := fun _ => ?_)
  by_cases q : (tk_s tc n i).1 = 2
  · exact kb_11_isTermHere_7 (kf := fun z => absurd (by rw [t3, rs_k_1]; exact q) z) (kt := fun _ => yes (by unfold pa_bt; rw [q]; rfl))
  · have q1 : ((tk_s tc n i).1 == 2) = false := by simpa using q
    refine kb_11_isTermHere_7 (kt := fun z => absurd (by rw [t3, rs_k_1] at z; exact z) q) (kf := fun _ => ?_)
    refine kb_11_isTermHere_15 (hC := sp_11_variable_0 h hN) (k := fun r τ hr => ?_)
    obtain ⟨rfl, rfl⟩ := hr
    have hE := pa_oI_m (rr_vb (nm := nm) (tc := tc) (n := n) (i := i) hN.2.1)
    cases e : pa_v nv nm (tk_s tc n i) with
    | none =>
      have : pa_bt (tk_s tc n) nv nm i = false := by unfold pa_bt; rw [q1, e]; rfl
      rw [this]
      exact kb_11_isTermHere_19 (kf := fun z => absurd rfl z) (kt := fun _ => kb_11_isTermHere_27 (k := kb_11_isTermHere_28 (hb0 := rfl) (hq := ⟨rfl, rfl⟩)))
    | some v => exact kb_11_isTermHere_19 (kt := fun z => absurd (by rw [← e, hE] at z; exact z) (by rw [e]; simp)) (kf := fun _ => yes (by unfold pa_bt; rw [e, q1]; rfl))
end MTERM
