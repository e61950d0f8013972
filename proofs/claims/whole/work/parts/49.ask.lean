/-! Learner.bringPoint, bringPair, askTeacher -/
def te_ask (N K : Nat) (fl : Nat → Nat → Bool) (nx : Nat → Nat → Option Nat) (held : Nat → Bool) (order : Bool) (x : sm_T) : sm_T × Int32 × Int32 × Int32 × Int32 :=
  match te_fs order N (fun s => fl s 0 && (held s == false)) with
  | some s => match te_tell x s 1 with
    | some p => (p.1, 0, 1, nI p.2, -2)
    | none => (x, 4, 0, -2, -2)
  | none => match te_fs order N (fun s => fl s 1 && (held s == true)) with
    | some s => match te_tell x s 2 with
      | some p => (p.1, 0, 2, nI p.2, -2)
      | none => (x, 4, 0, -2, -2)
    | none => match te_fs order N (fun s => (if held s = true then te_lv nx held s K 0 else none).isSome) with
      | some s => match te_lv nx held s K 0 with
        | some t => match te_pair x s t with
          | some p => (p.1, 0, 3, nI p.2.1, nI p.2.2)
          | none => (x, 4, 0, -2, -2)
        | none => (x, 1, 0, -2, -2)
      | none => (x, 1, 0, -2, -2)
theorem te_fs_lt {order : Bool} {N s : Nat} {p : Nat → Bool} (h : te_fs order N p = some s) : s < N ∧ p s = true := by
  unfold te_fs at h
  cases hf : am_fd (fun k => p (am_od order N k)) N 0 with
  | none => rw [hf] at h; cases h
  | some k =>
    rw [hf] at h
    injection h with h
    obtain ⟨-, c2, c3⟩ := am_fd_some _ _ hf
    subst h
    exact ⟨am_od_lt (by omega), c3⟩
theorem le_own4 {L : Nat} (hL : L = 6 ∨ L = 7) : ¬ le_own L 4 ∧ ¬ le_own L 0 := by
  constructor
  · rintro (h | h | h | ⟨-, h | h⟩ | ⟨-, h | h⟩) <;> omega
  · rintro (h | h | h | ⟨-, h | h⟩ | ⟨-, h | h⟩) <;> omega
theorem le_Fr.wo {L N K T : Nat} {tb : Nat → Int32} {fl : Nat → Nat → Bool} {nx : Nat → Nat → Option Nat} {σ τ : am_St} (hL : L = 6 ∨ L = 7) (h : le_Fr L σ τ) (hW : am_Wo σ N K T tb fl nx) : am_Wo τ N K T tb fl nx := hW.same (h 4 (le_own4 hL).1).1 (h 4 (le_own4 hL).1).2.1
section ASK
variable {d L N K T n : Nat} {nd : Nat → Nat → Int32} {x : sm_T} {rd tm : Int32} {care order : Bool} {tb : Nat → Int32} {fl : Nat → Nat → Bool} {nx : Nat → Nat → Option Nat}
/-- how a bringing ends -/
def le_End (L : Nat) (σ : am_St) (r : sm_T × Int32 × Int32 × Int32 × Int32) (n : Nat) (nd : Nat → Nat → Int32) (rd : Int32) (care order : Bool) (tm : Int32) (N : Nat) : Option Value → am_St → Prop := fun v τ => v = none ∧ le_C τ L r.1 n nd r.2.1 rd r.2.2.1 r.2.2.2.1 r.2.2.2.2 care order tm N ∧ le_Fr L σ τ
theorem le_fr_of {σ τ : am_St} (hI : ∀ o k, o ≠ L + 2 → o ≠ L → am_I τ o k = am_I σ o k) (hA : ∀ o k, o ≠ L + 2 → o ≠ L → am_A τ o k = am_A σ o k) (hR : τ.2.2 = σ.2.2) : le_Fr L σ τ := fun o ho => by
  have h1 : o ≠ L := fun e => ho (Or.inl e)
  have h2 : o ≠ L + 2 := fun e => ho (Or.inr (Or.inl e))
  refine ⟨fun k => hI o k h2 h1, fun k => hA o k h2 h1, ?_, fun k => ?_⟩
  · unfold am_J; rw [hR]
  · unfold am_R; rw [hR]
theorem sp_1_bringPoint {σ : am_St} (h : le_C σ L x n nd 0 rd 0 (-2) (-2) care order tm N) (hN : N ≤ 600) {s w : Nat} (hs : s < N) (hw : w < 4) (c : Int32) : am_C false ya_1_bringPoint (d + 2) [.ref (am_oid L), .int (nI s), .int c, .int (nI w)] σ (le_End L σ (match te_tell x s w with | some p => (p.1, 0, c, nI p.2, -2) | none => (x, 4, 0, -2, -2)) n nd rd care order tm N) := by
  have h' := h
  obtain ⟨hL, hS, hst, -, -, -, -, -, g9, g10, g11, g12, g13, -, -, -⟩ := h'
  obtain ⟨c1, e0, e1, e2, c9, c0, c5⟩ := le_lk hL
  have hLo : L ≠ L + 2 := by omega
  refine am_enter rfl (by simp [Value.category]) (Nat.le_of_ble_eq_true rfl) ?_
  refine kb_1_bringPoint_0 (Q' := fun r τ => am_T false ya_1_bringPoint (d + 2) (le_End L σ (match te_tell x s w with | some p => (p.1, 0, c, nI p.2, -2) | none => (x, 4, 0, -2, -2)) n nd rd care order tm N) 9 (am_L0 [.ref (am_oid L), .int (nI s), .int c, .int (nI w)] 5) (r.toList ++ []) τ) (hC := ?_) (k := fun _ _ hr => hr)
  rw [e2]
  refine sp_tell hS hN hst hs hw (fun ht => ?_) (fun x' i ht τ hS' hst' hi hB => ?_)
  · refine kb_1_bringPoint_9 (kt := fun z => absurd z (by decide)) (kf := fun _ => kb_1_bringPoint_16 (hq := ?_))
    rw [ht]
    refine ⟨rfl, h.upd (hS.same (fun k _ => ?_) (fun k _ => rfl)) hst (fun o k _ z => ?_) (fun _ _ _ _ => rfl) (fun _ _ => rfl) (fun k z1 z2 => ?_) ?_ ?_ ?_ ?_ ?_, le_fr_of (fun o k _ z => ?_) (fun _ _ _ _ => rfl) rfl⟩
    · simp [am_I_sI]
    · simp [am_I_sI, z]
    · simp [am_I_sI, show k ≠ 9 by omega]
    · simp [am_I_sI]
    · simp [am_I_sI]; exact g10
    · simp [am_I_sI]; exact g11
    · simp [am_I_sI]; exact g12
    · simp [am_I_sI]; exact g13
    · simp [am_I_sI, z]
  · refine kb_1_bringPoint_9 (kt := fun _ => ?_) (kf := fun z => absurd (nI_pos' (by omega)) z)
    refine kb_1_bringPoint_22 (hC := sp_1_bring hL) (k := fun r τ2 hr => ?_)
    obtain ⟨rfl, rfl⟩ := hr
    refine kb_1_bringPoint_31 ?_
    rw [ht]
    refine ⟨rfl, h.upd (hS'.same (fun k _ => ?_) (fun k _ => rfl)) hst' (fun o k z1 z2 => ?_) (fun o k z1 z2 => ?_) (fun o k => ?_) (fun k z1 z2 => ?_) ?_ ?_ ?_ ?_ ?_, le_fr_of (fun o k z1 z2 => ?_) (fun o k z1 z2 => ?_) hB.2.2⟩
    · simp [am_I_sI]
    · simp [am_I_sI, z2]; exact hB.1 o k z1
    · exact hB.2.1 o k z1
    · show am_R τ o k = _
      unfold am_R; rw [hB.2.2]
    · simp [am_I_sI, show k ≠ 11 by omega, show k ≠ 12 by omega, show k ≠ 13 by omega]; exact hB.1 L k hLo
    · simp [am_I_sI]; rw [hB.1 L 9 hLo]; exact g9
    · simp [am_I_sI]; rw [hB.1 L 10 hLo]; exact g10
    · simp [am_I_sI]
    · simp [am_I_sI]
    · simp [am_I_sI]
    · simp [am_I_sI, z2]; exact hB.1 o k z1
    · exact hB.2.1 o k z1
theorem sp_1_bringPair {σ : am_St} (h : le_C σ L x n nd 0 rd 0 (-2) (-2) care order tm N) (hN : N ≤ 600) {s t : Nat} (hs : s < N) (ht : t < N) (hst2 : s ≠ t) : am_C false ya_1_bringPair (d + 1) [.ref (am_oid L), .int (nI s), .int (nI t)] σ (le_End L σ (match te_pair x s t with | some p => (p.1, 0, 3, nI p.2.1, nI p.2.2) | none => (x, 4, 0, -2, -2)) n nd rd care order tm N) := by
  have h' := h
  obtain ⟨hL, hS, hst, -, -, -, -, -, g9, g10, g11, g12, g13, -, -, -⟩ := h'
  obtain ⟨c1, e0, e1, e2, c9, c0, c5⟩ := le_lk hL
  have hLo : L ≠ L + 2 := by omega
  generalize hQ : le_End L σ (match te_pair x s t with | some p => (p.1, 0, 3, nI p.2.1, nI p.2.2) | none => (x, 4, 0, -2, -2)) n nd rd care order tm N = Q
  have hS' : am_Sm σ (L + 2) x.1 x.2.1 x.2.2.1 x.2.2.2.1 x.2.2.2.2.1 x.2.2.2.2.2 := hS
  have hP := hS'.2.1
  have hq := hS'.2.2.1
  have hIP := hS'.2.2.2.1
  have hIq := hS'.2.2.2.2.1
  have e200 : (200 : Int32) = nI 200 := by decide
  have e300 : (300 : Int32) = nI 300 := by decide
  have vs : vp_in (nI s) 600 := vp_in_nI (by omega) (by omega)
  have vt : vp_in (nI t) 600 := vp_in_nI (by omega) (by omega)
  have nw : ∀ z, z < N → (0 ≤ am_A σ (am_lk L 2) 6 (nI z).toNatClampNeg) = (te_new x z = 0) ∧ te_new x z ≤ 1 := fun z hz => by
    rw [e2, nI_clamp (by omega)]
    rcases hS'.pt z (by omega) with ⟨i, a1, a2, a3⟩ | ⟨a1, a2⟩
    · have en : te_new x z = 0 := by unfold te_new; rw [hS'.find a1 a2]
      rw [a3, en]
      have : 0 ≤ nI i := nI_pos' (by omega)
      simp [this]
    · have en : te_new x z = 1 := by unfold te_new; rw [sm_find_none a1]
      rw [a2, en]
      have : ¬ (0 : Int32) ≤ -2 := by decide
      simp [this]
  -- where both are counted
  have full : te_pair x s t = none → ∀ (a1 a2 a3 a4 a5 : Option Value), am_T false ya_1_bringPair (d + 1) Q 66 [some (.ref (am_oid L)), a1, a2, a3, a4, a5] [] σ := by
    intro hp a1 a2 a3 a4 a5
    refine kb_1_bringPair_66 (hq := ?_)
    rw [← hQ, hp]
    refine ⟨rfl, h.upd (hS.same (fun k _ => ?_) (fun k _ => rfl)) hst (fun o k _ z => ?_) (fun _ _ _ _ => rfl) (fun _ _ => rfl) (fun k z1 z2 => ?_) ?_ ?_ ?_ ?_ ?_, le_fr_of (fun o k _ z => ?_) (fun _ _ _ _ => rfl) rfl⟩
    · simp [am_I_sI]
    · simp [am_I_sI, z]
    · simp [am_I_sI, show k ≠ 9 by omega]
    · simp [am_I_sI]
    · simp [am_I_sI]; exact g10
    · simp [am_I_sI]; exact g11
    · simp [am_I_sI]; exact g12
    · simp [am_I_sI]; exact g13
    · simp [am_I_sI, z]
  have at36 : ∀ (a3 : Option Value), am_T false ya_1_bringPair (d + 1) Q 36 [some (.ref (am_oid L)), some (.int (nI s)), some (.int (nI t)), a3, none, none] [.int (nI (te_new x t)), .int (nI (te_new x s))] σ := by
    intro a3
    have l1 := (nw s hs).2
    have l2 := (nw t ht).2
    have es : am_I σ (am_lk L 2) 0 + (nI (te_new x s) + nI (te_new x t)) = nI (x.1 + (te_new x s + te_new x t)) := by rw [e2, hIP, nI_add, nI_add]
    refine kb_1_bringPair_36 (kt := fun z => ?_) (kf := fun z => ?_)
    · rw [es, e200, nI_ltI (by omega) (by omega)] at z
      exact full (by unfold te_pair; rw [if_pos (Or.inl z)]) _ _ _ _ _
    · rw [es, e200, nI_ltI (by omega) (by omega)] at z
      refine kb_1_bringPair_53 (kt := fun y => ?_) (kf := fun y => ?_)
      · rw [e2, hIq, e300, nI_ltI (by omega) (by omega)] at y
        have hp : te_pair x s t = some (((te_add (te_add x s).1 t).1.1, x.2.1 + 1, (te_add (te_add x s).1 t).1.2.2.1, (te_add (te_add x s).1 t).1.2.2.2.1, am_un x.2.2.2.2.1 x.2.1 (te_add x s).2, am_un x.2.2.2.2.2 x.2.1 (te_add (te_add x s).1 t).2), (te_add x s).2, (te_add (te_add x s).1 t).2) := by
          unfold te_pair; rw [if_neg (by omega)]
        have q1 : (te_add x s).1.2.1 = x.2.1 ∧ (te_add x s).1.2.2.2.2.1 = x.2.2.2.2.1 ∧ (te_add x s).1.2.2.2.2.2 = x.2.2.2.2.2 ∧ (te_add x s).1.1 = x.1 + te_new x s := by
          unfold te_add te_new; split <;> simp
        have q2 : ∀ y : sm_T, (te_add y t).1.2.1 = y.2.1 ∧ (te_add y t).1.2.2.2.2.1 = y.2.2.2.2.1 ∧ (te_add y t).1.2.2.2.2.2 = y.2.2.2.2.2 := fun y => by
          unfold te_add; split <;> simp
        have q3 : te_new (te_add x s).1 t ≤ te_new x t := by
          cases hf : sm_find x.2.2.1 x.1 t with
          | none => unfold te_new; rw [hf]; split <;> omega
          | some j =>
            obtain ⟨-, b2, b3⟩ := am_fd_some _ _ hf
            have b3' : x.2.2.1 j = t := by simpa using b3
            unfold te_add
            cases hfs : sm_find x.2.2.1 x.1 s with
            | some i => dsimp only; exact Nat.le_refl _
            | none =>
              dsimp only
              unfold te_new
              dsimp only
              have : sm_find (am_un x.2.2.1 x.1 s) (x.1 + 1) t ≠ none := fun hn => by
                have := am_fd_none _ _ hn j (Nat.zero_le _) (by omega)
                rw [am_un_n (show j ≠ x.1 by omega), b3'] at this
                simp at this
              cases hf2 : sm_find (am_un x.2.2.1 x.1 s) (x.1 + 1) t with
              | none => exact absurd hf2 this
              | some _ => exact Nat.zero_le _
        refine kb_1_bringPair_72 (Q' := fun r τ => am_T false ya_1_bringPair (d + 1) Q 80 [some (.ref (am_oid L)), some (.int (nI s)), some (.int (nI t)), some (.int (nI (te_new x s) + nI (te_new x t))), none, none] (r.toList ++ []) τ) (hC := ?_) (k := fun _ _ hr => hr)
        rw [e2]
        refine sp_add hS hN hst hs (by omega) (fun τ1 hS1 hst1 hi1 _ hB1 => ?_)
        refine kb_1_bringPair_80 (Q' := fun r τ => am_T false ya_1_bringPair (d + 1) Q 90 [some (.ref (am_oid L)), some (.int (nI s)), some (.int (nI t)), some (.int (nI (te_new x s) + nI (te_new x t))), some (.int (nI (te_add x s).2)), none] (r.toList ++ []) τ) (hC := ?_) (k := fun _ _ hr => hr)
        rw [e2]
        refine sp_add hS1 hN hst1 ht (by omega) (fun τ2 hS2 hst2 hi2 hle hB2 => ?_)
        have hS2' : am_Sm τ2 (L + 2) (te_add (te_add x s).1 t).1.1 (te_add (te_add x s).1 t).1.2.1 (te_add (te_add x s).1 t).1.2.2.1 (te_add (te_add x s).1 t).1.2.2.2.1 (te_add (te_add x s).1 t).1.2.2.2.2.1 (te_add (te_add x s).1 t).1.2.2.2.2.2 := hS2
        obtain ⟨r1, r2, r3⟩ := q2 (te_add x s).1
        rw [r1, r2, r3, q1.1, q1.2.1, q1.2.2.1] at hS2'
        refine kb_1_bringPair_90 (hC := by rw [e2]; exact sp_5_addPair hS2' (show (te_add x s).2 < _ by omega) hi2 y) (k := fun r τ3 hr => ?_)
        obtain ⟨rfl, rfl⟩ := hr
        have hS3 := sm_pair_ok hS2' (show (te_add x s).2 < (te_add (te_add x s).1 t).1.1 by omega) hi2 y
        have hB := (hB1.tr hB2).tr (sm_pair_bo τ2 (L + 2) (te_add x s).2 (te_add (te_add x s).1 t).2 x.2.1)
        refine kb_1_bringPair_103 (hC := sp_1_bring hL) (k := fun r τ4 hr => ?_)
        obtain ⟨rfl, rfl⟩ := hr
        refine kb_1_bringPair_112 ?_
        rw [← hQ, hp]
        generalize sm_pair τ2 (L + 2) (te_add x s).2 (te_add (te_add x s).1 t).2 x.2.1 = τ3 at hS3 hB
        refine ⟨rfl, h.upd (hS3.same (fun k _ => ?_) (fun k _ => rfl)) hst2 (fun o k z1 z2 => ?_) (fun o k z1 z2 => ?_) (fun o k => ?_) (fun k z1 z2 => ?_) ?_ ?_ ?_ ?_ ?_, le_fr_of (fun o k z1 z2 => ?_) (fun o k z1 z2 => ?_) hB.2.2⟩
        · simp [am_I_sI]
        · simp [am_I_sI, z2]; exact hB.1 o k z1
        · exact hB.2.1 o k z1
        · show am_R τ3 o k = _
          unfold am_R; rw [hB.2.2]
        · simp [am_I_sI, show k ≠ 11 by omega, show k ≠ 12 by omega, show k ≠ 13 by omega]; exact hB.1 L k hLo
        · simp [am_I_sI]; rw [hB.1 L 9 hLo]; exact g9
        · simp [am_I_sI]; rw [hB.1 L 10 hLo]; exact g10
        · simp [am_I_sI]
        · simp [am_I_sI]
        · simp [am_I_sI]
        · simp [am_I_sI, z2]; exact hB.1 o k z1
        · exact hB.2.1 o k z1
      · rw [e2, hIq, e300, nI_ltI (by omega) (by omega)] at y
        exact full (by unfold te_pair; rw [if_pos (Or.inr (by omega))]) _ _ _ _ _
  have at17 : am_T false ya_1_bringPair (d + 1) Q 17 [some (.ref (am_oid L)), some (.int (nI s)), some (.int (nI t)), none, none, none] [.int (nI (te_new x s))] σ := by
    refine kb_1_bringPair_17 (hi1 := vt) (kt := fun z => ?_) (kf := fun z => ?_)
    · rw [(nw t ht).1] at z
      have := at36 (some (.int (nI (te_new x s))))
      rw [z, nI_0] at this
      exact kb_1_bringPair_35 (k := this)
    · rw [(nw t ht).1] at z
      have l := (nw t ht).2
      have en : te_new x t = 1 := by omega
      have := at36 (some (.int (nI (te_new x s))))
      rw [en] at this
      exact kb_1_bringPair_31 (k := this)
  refine am_enter rfl (by simp [Value.category]) (Nat.le_of_ble_eq_true rfl) ?_
  refine kb_1_bringPair_0 (hi0 := vs) (kt := fun z => ?_) (kf := fun z => ?_)
  · rw [(nw s hs).1] at z
    rw [z, nI_0] at at17
    exact kb_1_bringPair_16 (k := at17)
  · rw [(nw s hs).1] at z
    have l := (nw s hs).2
    have en : te_new x s = 1 := by omega
    rw [en] at at17
    exact kb_1_bringPair_12 (k := at17)
end ASK
