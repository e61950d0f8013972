/-! THE REFERENCE: nodeAt, isHeld, stateAt, wrongState, wrongStep -/
def mo_Nd (K : Nat → Int32) (n : Nat) (nd : Nat → Nat → Int32) : Prop := n ≤ 400 ∧ K 2 = nI n ∧ (∀ i, i < n → ∀ f, f < 6 → K (1008 + (6 * i + f)) = nd i f) ∧ tr_al n nd
theorem sp_11_nodeAt {d n i f : Nat} {nd : Nat → Nat → Int32} {σ : am_St} (h : mo_Nd (am_A σ 16 25) n nd) (hi : i < n) (hf : f < 6) : am_C true ya_11_nodeAt d [.ref (am_oid 16), .int (nI i), .int (nI f)] σ (fun r τ => τ = σ ∧ r = some (.int (nd i f))) := by
  have e : (1008 : Int32) + 6 * nI i + nI f = nI (1008 + (6 * i + f)) := by
    rw [show (1008 : Int32) = nI 1008 from rfl, show (6 : Int32) = nI 6 from rfl, nI_mul, nI_add, nI_add, Nat.add_assoc]
  have hn := h.1
  refine am_enter rfl (by simp [Value.category]) (Nat.le_of_ble_eq_true rfl) ?_
  refine kb_11_nodeAt_0 (hi0 := by rw [e]; exact vp_in_nI (by omega) (by omega)) (hq := ⟨rfl, ?_⟩)
  rw [e, nI_clamp (by omega), h.2.2.1 i hi f hf]
theorem nI_eq0 {n : Nat} (h : n < 2 ^ 31) : (nI n = 0) = (n = 0) := by
  rw [← nI_0]
  exact propext ⟨fun z => nI_inj h (by omega) z, fun z => by rw [z]⟩
theorem sp_11_isHeld {d n s : Nat} {nd : Nat → Nat → Int32} {x : Int32} {σ : am_St} (h : mo_Nd (am_A σ 16 25) n nd) (hs : s < 600) (hx : am_A σ 16 18 s = x) : am_C true ya_11_isHeld (d + 1) [.ref (am_oid 16), .int (nI s)] σ (fun r τ => τ = σ ∧ r = some (.int (am_bI (tr_hd n nd x)))) := by
  have h' := h
  obtain ⟨hn, h2, -, hal⟩ := h'
  have loop : ∀ (f i dd : Nat), 17 ≤ dd + f → dd < 2 ^ 31 → nd i 5 = nI dd → i < n → am_T true ya_11_isHeld (d + 1) (fun r τ => τ = σ ∧ r = some (.int (am_bI (tr_wk nd x f i)))) 13 [some (.ref (am_oid 16)), some (.int (nI s)), some (.int (nI i))] [] σ := by
    intro f
    induction f with
    | zero =>
      intro i dd hf hd h5 hi
      exfalso
      obtain ⟨dd', g1, g2, -⟩ := hal i hi
      rw [h5] at g2
      have := nI_inj hd (by omega) g2
      omega
    | succ f ih =>
      intro i dd hf hd h5 hi
      refine kb_11_isHeld_13 (hC := sp_11_nodeAt (f := 0) h hi (by decide)) (k := fun r τ hr => ?_)
      obtain ⟨rfl, rfl⟩ := hr
      refine kb_11_isHeld_19 (kt := fun z => ?_) (kf := fun z => ?_)
      · have e : tr_wk nd x (f + 1) i = decide (nd i 0 = 1) := by
          show (if nd i 0 = 2 then _ else _) = _
          rw [if_neg z]
        rw [e]
        refine kb_11_isHeld_56 (hC := sp_11_nodeAt (f := 0) h hi (by decide)) (k := fun r τ' hr => ?_)
        obtain ⟨rfl, rfl⟩ := hr
        refine kb_11_isHeld_62 (kt := fun y => ?_) (kf := fun y => ?_)
        · refine kb_11_isHeld_70 (k := kb_11_isHeld_71 (hb0 := rfl) (hq := ⟨rfl, ?_⟩))
          rw [decide_eq_false y]; rfl
        · refine kb_11_isHeld_66 (k := kb_11_isHeld_71 (hb0 := rfl) (hq := ⟨rfl, ?_⟩))
          rw [decide_eq_true y]; rfl
      · obtain ⟨dd', g1, g2, g3⟩ := hal i hi
        rcases g3 with g3 | g3 | ⟨-, t, y, m, k1, k2, k3, k4, k5, k6, k7, k8, k9, k10⟩
        · rw [g3] at z; exact absurd z (by decide)
        · rw [g3] at z; exact absurd z (by decide)
        · have e : tr_wk nd x (f + 1) i = tr_wk nd x f (tr_dn nd x i) := by
            show (if nd i 0 = 2 then _ else _) = _
            rw [if_pos z]
          rw [e]
          have hdd : 17 ≤ (dd' + 1) + f := by
            rw [h5] at g2
            have := nI_inj hd (by omega) g2
            omega
          refine kb_11_isHeld_23 (hi0 := vp_in_nI (by omega) (by omega)) (hC := sp_11_nodeAt (f := 1) h hi (by decide)) (k := fun r τ' hr => ?_)
          obtain ⟨rfl, rfl⟩ := hr
          have dn : tr_dn nd x i = if bt x t = true then y else m := by
            unfold tr_dn; rw [k2, k3, k4, nI_clamp (by omega), nI_clamp (by omega), nI_clamp (by omega)]
          refine kb_11_isHeld_37 (kt := fun c => ?_) (kf := fun c => ?_)
          · rw [nI_clamp (by omega), hx, k2, am_sh1_1 _ (by omega)] at c
            refine kb_11_isHeld_48 (k := kb_11_isHeld_49 (hC := sp_11_nodeAt (f := 3) h hi (by decide)) (k := fun r τ'' hr => ?_))
            obtain ⟨rfl, rfl⟩ := hr
            refine kb_11_isHeld_52 (k := ?_)
            rw [dn, if_neg c, k4]
            exact ih m (dd' + 1) hdd (by omega) k10 k8
          · rw [nI_clamp (by omega), hx, k2, am_sh1_1 _ (by omega)] at c
            refine kb_11_isHeld_44 (k := kb_11_isHeld_49 (hC := sp_11_nodeAt (f := 2) h hi (by decide)) (k := fun r τ'' hr => ?_))
            obtain ⟨rfl, rfl⟩ := hr
            refine kb_11_isHeld_52 (k := ?_)
            rw [dn, if_pos c, k3]
            exact ih y (dd' + 1) hdd (by omega) k9 k6
  refine am_enter rfl (by simp [Value.category]) (Nat.le_of_ble_eq_true rfl) ?_
  refine kb_11_isHeld_0 (kt := fun z => ?_) (kf := fun z => ?_)
  · rw [h2, nI_eq0 (by omega)] at z
    have c : 0 < n := by omega
    have e : tr_hd n nd x = tr_wk nd x 17 0 := by unfold tr_hd; simp [c]
    rw [e]
    obtain ⟨dd, g1, g2, -⟩ := hal 0 c
    exact kb_11_isHeld_11 (k := loop 17 0 dd (by omega) (by omega) g2 c)
  · rw [h2, nI_eq0 (by omega)] at z
    have e : tr_hd n nd x = false := by unfold tr_hd; simp [z]
    rw [e]
    exact kb_11_isHeld_9 ⟨rfl, rfl⟩
section MTEACH
variable {d N K T n : Nat} {nd : Nat → Nat → Int32} {order : Bool} {tb : Nat → Int32} {fl : Nat → Nat → Bool} {nx : Nat → Nat → Option Nat} {σ : am_St}
theorem sp_11_stateAt (hW : mo_Wo σ N K T tb fl nx) (ho : am_I σ 16 29 = am_bI order) {k : Nat} (hk : k < N) : am_C true ya_11_stateAt d [.ref (am_oid 16), .int (nI k)] σ (fun r τ => τ = σ ∧ r = some (.int (nI (am_od order N k)))) := by
  obtain ⟨h1, -, -, h4, -⟩ := hW
  refine am_enter rfl (by simp [Value.category]) (Nat.le_of_ble_eq_true rfl) ?_
  refine kb_11_stateAt_0 (kt := fun z => ?_) (kf := fun z => ?_)
  · rw [ho] at z
    refine kb_11_stateAt_11 (k := kb_11_stateAt_19 ⟨rfl, ?_⟩)
    cases order
    · exact absurd rfl z
    · rw [h4, show (1 : Int32) = nI 1 from rfl, nI_sub (by omega), nI_sub (by omega)]; rfl
  · rw [ho] at z
    refine kb_11_stateAt_7 (k := kb_11_stateAt_19 ⟨rfl, ?_⟩)
    cases order
    · rfl
    · exact absurd z (by decide)
theorem am_bI_0 (b : Bool) : (am_bI b = 0) = (b = false) := by cases b <;> simp [am_bI]
theorem sp_11_wrongState (hW : mo_Wo σ N K T tb fl nx) (ho : am_I σ 16 29 = am_bI order) (hn : mo_Nd (am_A σ 16 25) n nd) (is : Bool) : am_C true ya_11_wrongState (d + 2) [.ref (am_oid 16), .int (am_bI is)] σ (fun r τ => τ = σ ∧ r = some (.int (am_oI (-1) (te_fs order N (fun s => fl s (if is = true then 0 else 1) && (tr_hd n nd (tb s) == !is)))))) := by
  have hW' := hW
  obtain ⟨h1, -, -, h4, -, -, h7, -⟩ := hW'
  obtain ⟨p, hp⟩ : ∃ p : Nat → Bool, p = fun s => fl s (if is = true then 0 else 1) && (tr_hd n nd (tb s) == !is) := ⟨_, rfl⟩
  rw [← hp]
  have loop : ∀ (j k : Nat), k + j = N → ∀ a3 : Option Value, am_T true ya_11_wrongState (d + 2) (fun r τ => τ = σ ∧ r = some (.int (am_oI (-1) ((am_fd (fun k => p (am_od order N k)) j k).map (am_od order N))))) 2 [some (.ref (am_oid 16)), some (.int (am_bI is)), some (.int (nI k)), a3] [] σ := by
    intro j
    induction j with
    | zero =>
      intro k hk a3
      refine kb_11_wrongState_2 (kt := fun _ => kb_11_wrongState_65 ⟨rfl, rfl⟩) (kf := fun z => absurd ?_ z)
      rw [h4]; exact nI_le (by omega) (by omega)
    | succ j ihj =>
      intro k hk a3
      have hk2 : k < N := by omega
      have hod := am_od_lt (order := order) hk2
      obtain ⟨q1, q2, q3, -, -⟩ := h7 _ hod
      refine kb_11_wrongState_2 (kt := fun z => absurd z ?_) (kf := fun _ => ?_)
      · rw [h4]; exact nI_ge hk2 (by omega)
      refine kb_11_wrongState_10 (hC := sp_11_stateAt hW ho hk2) (k := fun r τ hr => ?_)
      obtain ⟨rfl, rfl⟩ := hr
      have v : vp_in (nI (am_od order N k)) 600 := vp_in_nI (by omega) (by omega)
      have held := sp_11_isHeld (d := d) hn (show am_od order N k < 600 by omega) q1
      have no : p (am_od order N k) = false → ∀ b3 : Option Value, am_T true ya_11_wrongState (d + 2) (fun r τ' => τ' = τ ∧ r = some (.int (am_oI (-1) ((am_fd (fun k => p (am_od order N k)) (j + 1) k).map (am_od order N))))) 59 [some (.ref (am_oid 16)), some (.int (am_bI is)), some (.int (nI k)), b3] [] τ := by
        intro hpf b3
        refine kb_11_wrongState_59 (k := ?_)
        rw [nI_1]
        have e : am_fd (fun k => p (am_od order N k)) (j + 1) k = am_fd (fun k => p (am_od order N k)) j (k + 1) := by
          show (if p (am_od order N k) = true then _ else _) = _
          rw [hpf]; rfl
        rw [e]
        exact ihj (k + 1) (by omega) b3
      have yes : p (am_od order N k) = true → am_T true ya_11_wrongState (d + 2) (fun r τ' => τ' = τ ∧ r = some (.int (am_oI (-1) ((am_fd (fun k => p (am_od order N k)) (j + 1) k).map (am_od order N))))) 57 [some (.ref (am_oid 16)), some (.int (am_bI is)), some (.int (nI k)), some (.int (nI (am_od order N k)))] [] τ := by
        intro hpt
        refine kb_11_wrongState_57 ⟨rfl, ?_⟩
        have e : am_fd (fun k => p (am_od order N k)) (j + 1) k = some k := by
          show (if p (am_od order N k) = true then _ else _) = _
          rw [if_pos hpt]
        rw [e]; rfl
      cases is with
      | true =>
        refine kb_11_wrongState_15 (kt := fun z => absurd z (by decide)) (kf := fun _ => ?_)
        refine kb_11_wrongState_20 (hi0 := v) (kt := fun z => ?_) (kf := fun z => ?_)
        · rw [nI_clamp (by omega), q2, am_bI_0] at z
          exact no (by rw [hp]; simp [z]) _
        · rw [nI_clamp (by omega), q2, am_bI_0] at z
          refine kb_11_wrongState_29 (hC := held) (k := fun r τ' hr => ?_)
          obtain ⟨rfl, rfl⟩ := hr
          refine kb_11_wrongState_34 (kt := fun y => ?_) (kf := fun y => ?_)
          · rw [am_bI_0] at y
            exact no (by rw [hp]; simp at y; simp [y]) _
          · rw [am_bI_0] at y
            exact kb_11_wrongState_37 (k := yes (by rw [hp]; simp at z; simp [z, y]))
      | false =>
        refine kb_11_wrongState_15 (kt := fun _ => ?_) (kf := fun z => absurd rfl z)
        refine kb_11_wrongState_40 (hi0 := v) (kt := fun z => ?_) (kf := fun z => ?_)
        · rw [nI_clamp (by omega), q3, am_bI_0] at z
          exact no (by rw [hp]; simp [z]) _
        · rw [nI_clamp (by omega), q3, am_bI_0] at z
          refine kb_11_wrongState_49 (hC := held) (k := fun r τ' hr => ?_)
          obtain ⟨rfl, rfl⟩ := hr
          refine kb_11_wrongState_54 (kt := fun y => ?_) (kf := fun y => ?_)
          · rw [am_bI_0] at y
            exact no (by rw [hp]; simp [y]) _
          · rw [am_bI_0] at y
            exact yes (by rw [hp]; simp at z y; simp [z, y])
  exact am_enter rfl (by simp [Value.category]) (Nat.le_of_ble_eq_true rfl) (kb_11_wrongState_0 (k := loop N 0 (by omega) _))
theorem am_oI_m1 {x : Option Nat} {N : Nat} (h : ∀ t, x = some t → t < N) (hN : N ≤ 600) : (am_oI (-1) x = -1) = (x = none) := by
  cases x with
  | none => simp [am_oI]
  | some t =>
    have := h t rfl
    have hh : nI t ≠ -1 := nI_neg1 t (by omega)
    simp [am_oI, hh]
theorem sp_11_wrongStep (hW : mo_Wo σ N K T tb fl nx) (hn : mo_Nd (am_A σ 16 25) n nd) {s : Nat} (hs : s < N) : am_C true ya_11_wrongStep (d + 2) [.ref (am_oid 16), .int (nI s)] σ (fun r τ => τ = σ ∧ r = some (.int (am_oI (-1) (if tr_hd n nd (tb s) = true then te_lv nx (fun s => tr_hd n nd (tb s)) s K 0 else none)))) := by
  obtain ⟨held, hheld⟩ : ∃ held : Nat → Bool, held = fun s => tr_hd n nd (tb s) := ⟨_, rfl⟩
  have hh : tr_hd n nd (tb s) = held s := by rw [hheld]
  rw [← hheld, hh]
  obtain ⟨h1, h2, -, -, h5, -, h7, h8⟩ := hW
  have isH : ∀ t, t < N → am_C true ya_11_isHeld (d + 1) [.ref (am_oid 16), .int (nI t)] σ (fun r τ => τ = σ ∧ r = some (.int (am_bI (held t)))) := fun t ht => by
    rw [hheld]; exact sp_11_isHeld hn (by omega) (h7 t ht).1
  have loop : ∀ (j k : Nat), k + j = K → ∀ a3 : Option Value, am_T true ya_11_wrongStep (d + 2) (fun r τ => τ = σ ∧ r = some (.int (am_oI (-1) (te_lv nx held s j k)))) 12 [some (.ref (am_oid 16)), some (.int (nI s)), some (.int (nI k)), a3] [] σ := by
    intro j
    induction j with
    | zero =>
      intro k hk a3
      refine kb_11_wrongStep_12 (kt := fun _ => kb_11_wrongStep_55 ⟨rfl, rfl⟩) (kf := fun z => absurd ?_ z)
      rw [h5]; exact nI_le (by omega) (by omega)
    | succ j ih =>
      intro k hk a3
      obtain ⟨g1, g2⟩ := h8 s hs k (by omega)
      have ei : (8 : Int32) * nI s + nI k = nI (8 * s + k) := by rw [show (8 : Int32) = nI 8 from rfl, nI_mul, nI_add]
      have eT : am_A σ 16 23 ((8 : Int32) * nI s + nI k).toNatClampNeg = am_oI (-1) (nx s k) := by rw [ei, nI_clamp (by omega)]; exact g1
      refine kb_11_wrongStep_12 (kt := fun z => absurd z ?_) (kf := fun _ => ?_)
      · rw [h5]; exact nI_ge (by omega) (by omega)
      refine kb_11_wrongStep_22 (hi0 := by rw [ei]; exact vp_in_nI (by omega) (by omega)) (kt := fun z => ?_) (kf := fun z => ?_)
      · rw [eT, am_oI_m1 g2 h1] at z
        refine kb_11_wrongStep_49 (k := ?_)
        rw [nI_1]
        have e : te_lv nx held s (j + 1) k = te_lv nx held s j (k + 1) := by
          show (match nx s k with | none => _ | some t => _) = _
          rw [z]
        rw [e]
        exact ih (k + 1) (by omega) _
      · rw [eT, am_oI_m1 g2 h1] at z
        rw [eT]
        cases hx : nx s k with
        | none => exact absurd hx z
        | some t =>
          have ht := g2 t hx
          have e : te_lv nx held s (j + 1) k = if held t = true then te_lv nx held s j (k + 1) else some t := by
            show (match nx s k with | none => _ | some t => _) = _
            rw [hx]
          rw [e]
          show am_T _ _ _ _ _ [_, _, _, some (.int (nI t))] _ _
          refine kb_11_wrongStep_39 (hC := isH t ht) (k := fun r τ hr => ?_)
          obtain ⟨rfl, rfl⟩ := hr
          refine kb_11_wrongStep_44 (kt := fun y => ?_) (kf := fun y => ?_)
          · rw [am_bI_0] at y
            rw [if_pos (by simpa using y)]
            refine kb_11_wrongStep_49 (k := ?_)
            rw [nI_1]
            exact ih (k + 1) (by omega) _
          · rw [am_bI_0] at y
            rw [if_neg (by simp [y])]
            exact kb_11_wrongStep_47 ⟨rfl, rfl⟩
  refine am_enter rfl (by simp [Value.category]) (Nat.le_of_ble_eq_true rfl) ?_
  refine kb_11_wrongStep_0 (hC := isH s hs) (k := fun r τ hr => ?_)
  obtain ⟨rfl, rfl⟩ := hr
  refine kb_11_wrongStep_5 (kt := fun z => ?_) (kf := fun z => ?_)
  · rw [am_bI_0] at z
    rw [if_pos (by simpa using z)]
    exact kb_11_wrongStep_10 (k := loop K 0 (by omega) _)
  · rw [am_bI_0] at z
    rw [if_neg (by simp [z])]
    exact kb_11_wrongStep_8 ⟨rfl, rfl⟩
end MTEACH
