/-! THE REFERENCE: asks -/
section MASKS
variable {d N K T : Nat} {order care : Bool} {al : Nat → Bool} {tb : Nat → Int32} {fl : Nat → Nat → Bool} {nx : Nat → Nat → Option Nat} {σ : am_St}
/-- behind asks -/
def mo_ar (y : lr_T) (a : sm_T × Int32 × Int32 × Int32 × Int32) : lr_T := (a.1, y.2.1, a.2.1, y.2.2.2.1, a.2.2.1, a.2.2.2.1, a.2.2.2.2)
theorem mo_C.ends {y : lr_T} {τ : am_St} (h : mo_C σ y care order al T N) (x : Int32) (hτ : τ = am_sA σ 16 25 (upd (upd (upd (upd (am_A σ 16 25) 4 x) 5 0) 6 (-2)) 7 (-2))) : mo_C τ (y.1, y.2.1, x, y.2.2.2.1, 0, -2, -2) care order al T N ∧ mo_RF σ τ := by
  have hf : mo_RF σ τ := by rw [hτ]; exact mo_Fr.rf.sA (by rfl) _
  have e : am_A τ 16 25 = upd (upd (upd (upd (am_A σ 16 25) 4 x) 5 0) 6 (-2)) 7 (-2) := by rw [hτ, am_A_sA, if_pos ⟨rfl, rfl⟩]
  refine ⟨h.chg (h.1.same (fun j hj => ?_) ?_) rfl (fun j hj => ?_) hf ?_ ?_ ?_ ?_ ?_, hf⟩
  · rw [e, upd_n (by omega), upd_n (by omega), upd_n (by omega), upd_n (by omega)]
  · rw [hτ, am_A_sA, if_neg (by simp)]
  · rw [e, upd_n (by omega), upd_n (by omega), upd_n (by omega), upd_n (by omega)]
  · rw [e, upd_n (by omega), upd_n (by omega), upd_n (by omega), upd_s]
  · rw [e, upd_n (by omega), upd_n (by omega), upd_n (by omega), upd_n (by omega)]; exact h.2.2.2.1
  · rw [e, upd_n (by omega), upd_n (by omega), upd_s]
  · rw [e, upd_n (by omega), upd_s]
  · rw [e, upd_s]
theorem te_add_q (x : sm_T) (s : Nat) : (te_add x s).1.2.1 = x.2.1 ∧ (te_add x s).1.2.2.2.2.1 = x.2.2.2.2.1 ∧ (te_add x s).1.2.2.2.2.2 = x.2.2.2.2.2 ∧ (te_add x s).1.1 = x.1 + te_new x s ∧ (te_add x s).2 < (te_add x s).1.1 := by
  unfold te_add te_new
  cases hf : sm_find x.2.2.1 x.1 s with
  | some i =>
    obtain ⟨-, b2, -⟩ := am_fd_some _ _ hf
    refine ⟨rfl, rfl, rfl, rfl, ?_⟩
    dsimp only; omega
  | none => exact ⟨rfl, rfl, rfl, rfl, Nat.lt_succ_self _⟩
theorem te_new_add (x : sm_T) (s t : Nat) : te_new (te_add x s).1 t ≤ te_new x t := by
  cases hf : sm_find x.2.2.1 x.1 t with
  | none => unfold te_new; rw [hf]; split <;> omega
  | some j =>
    obtain ⟨-, b2, b3⟩ := am_fd_some _ _ hf
    have b3' : x.2.2.1 j = t := by simpa using b3
    unfold te_add
    cases hfs : sm_find x.2.2.1 x.1 s with
    | some i => dsimp only; exact Nat.le_refl _
    | none =>
      dsimp only
      unfold te_new
      dsimp only
      have : sm_find (am_un x.2.2.1 x.1 s) (x.1 + 1) t ≠ none := fun hn => by
        have := am_fd_none _ _ hn j (Nat.zero_le _) (by omega)
        rw [am_un_n (show j ≠ x.1 by omega), b3'] at this
        simp at this
      cases hf2 : sm_find (am_un x.2.2.1 x.1 s) (x.1 + 1) t with
      | none => exact absurd hf2 this
      | some _ => exact Nat.zero_le _
theorem am_fs_m1 {p : Nat → Bool} (hN : N ≤ 600) : (am_oI (-1) (te_fs order N p) = -1) = (te_fs order N p = none) := am_oI_m1 (fun t h => (te_fs_lt h).1) hN
theorem sp_11_asks {y : lr_T} (h : mo_C σ y care order al T N) (he : y.2.2.1 = 0) (hW : mo_Wo σ N K T tb fl nx) : am_C true ya_11_asks (d + 3) [.ref (am_oid 16)] σ (fun r τ => r = none ∧ mo_C τ (mo_ar y (te_ask N K fl nx (fun s => tr_hd y.2.1.1 y.2.1.2 (tb s)) order y.1)) care order al T N ∧ mo_RF σ τ) := by
  have h' := h
  obtain ⟨hX, hnd, g4, g3, g5, g6, g7, gc, go, ga⟩ := h'
  have hW' := hW
  obtain ⟨w1, w2, w3, w4, w5, w6, w7, w8⟩ := hW'
  obtain ⟨held, hheld⟩ : ∃ held : Nat → Bool, held = fun s => tr_hd y.2.1.1 y.2.1.2 (tb s) := ⟨_, rfl⟩
  have ws : ∀ is : Bool, am_C true ya_11_wrongState (d + 2) [.ref (am_oid 16), .int (am_bI is)] σ (fun r τ => τ = σ ∧ r = some (.int (am_oI (-1) (te_fs order N (fun s => fl s (if is = true then 0 else 1) && (held s == !is)))))) := fun is => by rw [hheld]; exact sp_11_wrongState hW go hnd is
  have wt : ∀ s, s < N → am_C true ya_11_wrongStep (d + 2) [.ref (am_oid 16), .int (nI s)] σ (fun r τ => τ = σ ∧ r = some (.int (am_oI (-1) (if held s = true then te_lv nx held s K 0 else none)))) := fun s hs => by rw [hheld]; exact sp_11_wrongStep hW hnd hs
  rw [← hheld]
  generalize hQ : (fun (r : Option Value) (τ : am_St) => r = none ∧ mo_C τ (mo_ar y (te_ask N K fl nx held order y.1)) care order al T N ∧ mo_RF σ τ) = Q
  have hP := hX.1.1
  have k0 := hX.1.2.2.1
  have k1 := hX.1.2.2.2.1
  -- a point is brought
  have point : ∀ (s w : Nat) (is : Bool), s < N → w = (if is = true then 1 else 2) → te_ask N K fl nx held order y.1 = (match te_tell y.1 s w with | some p => (p.1, 0, nI w, nI p.2, -2) | none => (y.1, 4, 0, -2, -2)) → ∀ (a3 a4 a5 a6 a7 : Option Value), am_T true ya_11_asks (d + 3) Q 32 [some (.ref (am_oid 16)), some (.int (nI s)), some (.int (am_bI is)), a3, a4, a5, a6, a7] [] σ := by
    intro s w is hs hw eA a3 a4 a5 a6 a7
    have hw4 : w < 4 := by rw [hw]; split <;> decide
    refine kb_11_asks_32 (hC := sp_11_isNew hX (by omega)) (k := fun r τ hr => ?_)
    obtain ⟨rfl, rfl⟩ := hr
    have e2 : am_A τ 16 25 0 + nI (te_new y.1 s) = nI (y.1.1 + te_new y.1 s) := by rw [k0, nI_add]
    have hnew : te_new y.1 s ≤ 1 := by unfold te_new; split <;> omega
    have e200 : (200 : Int32) = nI 200 := by decide
    rcases te_tell_iff (s := s) (w := w) hP with ⟨c, p, hp⟩ | ⟨c, hp⟩
    · rw [hp] at eA
      refine kb_11_asks_43 (kt := fun _ => ?_) (kf := fun z => absurd ?_ z)
      · have fin : am_T true ya_11_asks (d + 3) Q 79 [some (.ref (am_oid 16)), some (.int (nI s)), some (.int (am_bI is)), a3, a4, a5, a6, a7] [.int (nI w), .int (nI s), .ref (am_oid 16), .int (nI w), .ref (am_oid 16)] τ := by
          refine kb_11_asks_79 (hC := sp_11_comes hX w1 hs hw4 hp) (k := fun r τ1 hr => ?_)
          obtain ⟨rfl, hX1, hf1, hc1⟩ := hr
          refine kb_11_asks_82 (hC := sp_11_brings) (k := fun r τ2 hr => ?_)
          obtain ⟨rfl, hτ2⟩ := hr
          refine kb_11_asks_87 (hq := ?_)
          rw [← hQ, eA]
          have e : am_A τ2 16 25 = upd (upd (upd (am_A τ1 16 25) 5 (nI w)) 6 (nI p.2)) 7 (-2) := by rw [hτ2, am_A_sA, if_pos ⟨rfl, rfl⟩]
          have hf2 : mo_RF τ τ2 := by rw [hτ2]; exact hf1.sA (by rfl) _
          refine ⟨rfl, h.chg (hX1.same (fun j hj => ?_) ?_) rfl (fun j hj => ?_) hf2 ?_ ?_ ?_ ?_ ?_, hf2⟩
          · rw [e, upd_n (by omega), upd_n (by omega), upd_n (by omega)]
          · rw [hτ2, am_A_sA, if_neg (by simp)]
          · rw [e, upd_n (by omega), upd_n (by omega), upd_n (by omega), hc1 j (by omega)]
          · rw [e, upd_n (by omega), upd_n (by omega), upd_n (by omega), hc1 4 (by omega), g4, he]; rfl
          · rw [e, upd_n (by omega), upd_n (by omega), upd_n (by omega), hc1 3 (by omega), g3]; rfl
          · rw [e, upd_n (by omega), upd_n (by omega), upd_s]; rfl
          · rw [e, upd_n (by omega), upd_s]; rfl
          · rw [e, upd_s]; rfl
        cases is with
        | true =>
          have hw1 : w = 1 := hw
          subst hw1
          exact kb_11_asks_58 (kt := fun z => absurd z (by decide)) (kf := fun _ => kb_11_asks_63 (k := kb_11_asks_68 (kt := fun z => absurd z (by decide)) (kf := fun _ => kb_11_asks_74 (k := fin))))
        | false =>
          have hw1 : w = 2 := hw
          subst hw1
          exact kb_11_asks_58 (kt := fun _ => kb_11_asks_67 (k := kb_11_asks_68 (kt := fun _ => kb_11_asks_78 (k := fin)) (kf := fun z => absurd rfl z))) (kf := fun z => absurd rfl z)
      · rw [e2, e200]; exact nI_le c (by omega)
    · rw [hp] at eA
      refine kb_11_asks_43 (kt := fun z => absurd z ?_) (kf := fun _ => ?_)
      · rw [e2, e200]; exact nI_ge (by omega) (by omega)
      · refine kb_11_asks_50 (hC := sp_11_ends) (k := fun r τ1 hr => ?_)
        obtain ⟨rfl, hτ1⟩ := hr
        refine kb_11_asks_55 (k := kb_11_asks_87 (hq := ?_))
        rw [← hQ, eA]
        exact ⟨rfl, h.ends 4 hτ1⟩
  refine am_enter rfl (by simp [Value.category]) (Nat.le_of_ble_eq_true rfl) ?_
  refine kb_11_asks_0 (hC := ws true) (k := fun r τ hr => ?_)
  obtain ⟨rfl, rfl⟩ := hr
  cases hx0 : te_fs order N (fun s => fl s (if true = true then 0 else 1) && (held s == !true)) with
  | some s =>
    have hs := (te_fs_lt hx0).1
    refine kb_11_asks_5 (kt := fun z => absurd z (nI_neg1 s (by omega))) (kf := fun _ => kb_11_asks_11 (k := kb_11_asks_16 (kt := fun _ => ?_) (kf := fun z => absurd z (by decide))))
    refine kb_11_asks_27 (kt := fun z => absurd z (nI_neg1 s (by omega))) (kf := fun _ => ?_)
    refine point s 1 true hs rfl ?_ _ _ _ _ _
    have hx0' : te_fs order N (fun s => fl s 0 && (held s == false)) = some s := hx0
    unfold te_ask
    rw [hx0']
    rfl
  | none =>
    have hx0' : te_fs order N (fun s => fl s 0 && (held s == false)) = none := hx0
    refine kb_11_asks_5 (kt := fun _ => kb_11_asks_15 (k := kb_11_asks_16 (kt := fun z => absurd rfl z) (kf := fun _ => ?_))) (kf := fun z => absurd rfl z)
    refine kb_11_asks_21 (hC := ws false) (k := fun r τ2 hr => ?_)
    obtain ⟨rfl, rfl⟩ := hr
    cases hx1 : te_fs order N (fun s => fl s (if false = true then 0 else 1) && (held s == !false)) with
    | some s =>
      have hs := (te_fs_lt hx1).1
      have hx1' : te_fs order N (fun s => fl s 1 && (held s == true)) = some s := hx1
      refine kb_11_asks_26 (k := kb_11_asks_27 (kt := fun z => absurd z (nI_neg1 s (by omega))) (kf := fun _ => ?_))
      refine point s 2 false hs rfl ?_ _ _ _ _ _
      unfold te_ask
      rw [hx0', hx1']
      rfl
    | none =>
      have hx1' : te_fs order N (fun s => fl s 1 && (held s == true)) = none := hx1
      refine kb_11_asks_26 (k := kb_11_asks_27 (kt := fun _ => ?_) (kf := fun z => absurd rfl z))
      obtain ⟨p, hp⟩ : ∃ p : Nat → Bool, p = fun s => (if held s = true then te_lv nx held s K 0 else none).isSome := ⟨_, rfl⟩
      have loop : ∀ (j k : Nat), k + j = N → (am_fd (fun k => p (am_od order N k)) N 0 = am_fd (fun k => p (am_od order N k)) j k) → ∀ (b1 : Option Value) (b2 : Int32) (b4 b5 : Option Value), am_T true ya_11_asks (d + 3) Q 90 [some (.ref (am_oid 16)), b1, some (.int b2), some (.int (nI k)), b4, b5, none, none] [] τ2 := by
        intro j
        induction j with
        | zero =>
          intro k hk hfd b1 b2 b4 b5
          refine kb_11_asks_90 (kt := fun _ => kb_11_asks_244 (hC := sp_11_ends) (k := fun r τ1 hr => ?_)) (kf := fun u => absurd ?_ u)
          · obtain ⟨rfl, hτ1⟩ := hr
            have hn : te_fs order N p = none := by unfold te_fs; rw [hfd]; rfl
            have eA : te_ask N K fl nx held order y.1 = (y.1, 1, 0, -2, -2) := by
              unfold te_ask
              rw [hx0', hx1', ← hp, hn]
            refine kb_11_asks_249 (hq := ?_)
            rw [← hQ, eA]
            exact ⟨rfl, h.ends 1 hτ1⟩
          · rw [w4]; exact nI_le (by omega) (by omega)
        | succ j ih =>
          intro k hk hfd b1 b2 b4 b5
          have hk2 : k < N := by omega
          have hod := am_od_lt (order := order) hk2
          refine kb_11_asks_90 (kt := fun u => absurd u ?_) (kf := fun _ => ?_)
          · rw [w4]; exact nI_ge hk2 (by omega)
          refine kb_11_asks_98 (hC := sp_11_stateAt hW go hk2) (k := fun r τ3 hr => ?_)
          obtain ⟨rfl, rfl⟩ := hr
          refine kb_11_asks_103 (hC := wt _ hod) (k := fun r τ4 hr => ?_)
          obtain ⟨rfl, rfl⟩ := hr
          have hlt : ∀ t, (if held (am_od order N k) = true then te_lv nx held (am_od order N k) K 0 else none) = some t → t < N ∧ held t = false := fun t ht => by
            split at ht
            · exact te_lv_lt (fun k hk t h => (w8 _ hod k hk).2 t h) K 0 (by omega) ht
            · cases ht
          cases hx : (if held (am_od order N k) = true then te_lv nx held (am_od order N k) K 0 else none) with
          | none =>
            refine kb_11_asks_111 (kt := fun u => absurd rfl u) (kf := fun _ => kb_11_asks_119 (k := kb_11_asks_238 (k := ?_)))
            rw [nI_1]
            refine ih (k + 1) (by omega) ?_ _ _ _ _
            rw [hfd]
            show (if p (am_od order N k) = true then _ else _) = _
            rw [if_neg (by rw [hp]; simp only [hx]; simp)]
          | some t =>
            obtain ⟨ht1, ht2⟩ := hlt t hx
            have hhs : held (am_od order N k) = true := by
              cases c : held (am_od order N k)
              · rw [c] at hx; simp at hx
              · rfl
            rw [if_pos hhs] at hx
            obtain ⟨s, hs⟩ : ∃ s, s = am_od order N k := ⟨_, rfl⟩
            have hfs : te_fs order N p = some s := by
              unfold te_fs
              rw [hfd]
              have : am_fd (fun k => p (am_od order N k)) (j + 1) k = some k := by
                show (if p (am_od order N k) = true then _ else _) = _
                rw [if_pos (by rw [hp]; simp only [if_pos hhs, hx]; rfl)]
              rw [this, hs]; rfl
            have eA : te_ask N K fl nx held order y.1 = (match te_pair y.1 s t with | some p => (p.1, 0, 3, nI p.2.1, nI p.2.2) | none => (y.1, 4, 0, -2, -2)) := by
              unfold te_ask
              rw [hx0', hx1', ← hp, hfs]
              dsimp only
              rw [hs, hx]
              rfl
            rw [← hs] at hod ⊢
            have hnew1 : te_new y.1 s ≤ 1 := by unfold te_new; split <;> omega
            have hnew2 : te_new y.1 t ≤ 1 := by unfold te_new; split <;> omega
            have hq300 := hX.1.2.1
            have e300 : (300 : Int32) = nI 300 := by decide
            have e200 : (200 : Int32) = nI 200 := by decide
            have full : te_pair y.1 s t = none → ∀ (c6 c7 : Option Value), am_T true ya_11_asks (d + 3) Q 160 [some (.ref (am_oid 16)), b1, some (.int b2), some (.int (nI k)), some (.int (nI s)), some (.int (nI t)), c6, c7] [] τ4 := fun hpn c6 c7 => by
              rw [hpn] at eA
              refine kb_11_asks_160 (hC := sp_11_ends) (k := fun r τ1 hr => ?_)
              obtain ⟨rfl, hτ1⟩ := hr
              refine kb_11_asks_165 (hq := ?_)
              rw [← hQ, eA]
              exact ⟨rfl, h.ends 4 hτ1⟩
            refine kb_11_asks_111 (kt := fun _ => ?_) (kf := fun u => absurd u (nI_neg1 t (by omega)))
            show am_T _ _ _ _ _ [_, _, _, _, _, some (.int (nI t)), _, _] _ _
            refine kb_11_asks_122 (kt := fun u => ?_) (kf := fun u => ?_)
            · rw [k1, e300] at u
              have := nI_inj (by omega) (by omega) u
              exact full (by unfold te_pair; rw [if_pos (by omega)]) _ _
            · rw [k1, e300] at u
              have hq3 : y.1.2.1 ≠ 300 := fun z => u (by rw [z])
              refine kb_11_asks_134 (hC := sp_11_isNew hX (by omega)) (k := fun r τ5 hr => ?_)
              obtain ⟨rfl, rfl⟩ := hr
              refine kb_11_asks_146 (hC := sp_11_isNew hX (by omega)) (k := fun r τ6 hr => ?_)
              obtain ⟨rfl, rfl⟩ := hr
              have e2 : am_A τ6 16 25 0 + nI (te_new y.1 s) + nI (te_new y.1 t) = nI (y.1.1 + te_new y.1 s + te_new y.1 t) := by rw [k0, nI_add, nI_add]
              refine kb_11_asks_153 (kt := fun c => ?_) (kf := fun c => ?_)
              · rw [e2, e200, nI_leI (by omega) (by omega)] at c
                have tp : te_pair y.1 s t = some (((te_add (te_add y.1 s).1 t).1.1, y.1.2.1 + 1, (te_add (te_add y.1 s).1 t).1.2.2.1, (te_add (te_add y.1 s).1 t).1.2.2.2.1, am_un y.1.2.2.2.2.1 y.1.2.1 (te_add y.1 s).2, am_un y.1.2.2.2.2.2 y.1.2.1 (te_add (te_add y.1 s).1 t).2), (te_add y.1 s).2, (te_add (te_add y.1 s).1 t).2) := by
                  unfold te_pair; rw [if_neg (by omega)]
                rw [tp] at eA
                have t1 : te_tell y.1 s 0 = some (te_add y.1 s) := te_tell_0 (by omega)
                refine kb_11_asks_166 (hC := sp_11_comes (w := 0) hX w1 hod (by decide) t1) (k := fun r τ7 hr => ?_)
                obtain ⟨rfl, hX7, hf7, hc7⟩ := hr
                obtain ⟨u1, u2, u3, u4, u5⟩ := te_add_q y.1 s
                obtain ⟨v1, v2, v3, v4, v5⟩ := te_add_q (te_add y.1 s).1 t
                have r2 : (te_add y.1 s).1.1 + te_new (te_add y.1 s).1 t ≤ 200 := by
                  have := te_new_add y.1 s t
                  omega
                have t2 : te_tell (te_add y.1 s).1 t 0 = some (te_add (te_add y.1 s).1 t) := te_tell_0 r2
                refine kb_11_asks_173 (hC := sp_11_comes (w := 0) hX7 w1 ht1 (by decide) t2) (k := fun r τ8 hr => ?_)
                obtain ⟨rfl, hX8, hf8, hc8⟩ := hr
                have kq : am_A τ8 16 25 1 = nI y.1.2.1 := by rw [hc8 1 (by omega), hc7 1 (by omega)]; exact k1
                have xa : (408 : Int32) + nI y.1.2.1 = nI (408 + y.1.2.1) := nI_add 408 _
                have xb : (708 : Int32) + nI y.1.2.1 = nI (708 + y.1.2.1) := nI_add 708 _
                have ka : ∀ z : Int32, upd (am_A τ8 16 25) (408 + y.1.2.1) z 1 = nI y.1.2.1 := fun z => by rw [upd_n (by omega)]; exact kq
                refine kb_11_asks_182 (hi1 := by rw [kq, xa]; exact vp_in_nI (by omega) (by omega)) (hi2 := by rw [kq, xa, nI_clamp (by omega), ka, xb]; exact vp_in_nI (by omega) (by omega)) (hC := sp_11_brings) (k := fun r τ9 hr => ?_)
                rw [kq, xa, nI_clamp (show 408 + y.1.2.1 < 2 ^ 31 by omega), ka, xb, nI_clamp (show 708 + y.1.2.1 < 2 ^ 31 by omega), am_sA_sA, am_sA_sA, am_A_sA, if_pos ⟨rfl, rfl⟩, am_sA_sA] at hr
                obtain ⟨rfl, hτ9⟩ := hr
                obtain ⟨K9, hK9⟩ : ∃ K9, K9 = am_A τ9 16 25 := ⟨_, rfl⟩
                have hK : K9 = upd (upd (upd (upd (upd (upd (am_A τ8 16 25) (408 + y.1.2.1) (nI (te_add y.1 s).2)) (708 + y.1.2.1) (nI (te_add (te_add y.1 s).1 t).2)) 1 (nI (y.1.2.1 + 1))) 5 3) 6 (nI (te_add y.1 s).2)) 7 (nI (te_add (te_add y.1 s).1 t).2) := by
                  rw [hK9, hτ9, am_A_sA, if_pos ⟨rfl, rfl⟩, upd_n (show 1 ≠ 708 + y.1.2.1 by omega), ka, nI_1]
                have K1 : ∀ j, j ≠ 1 → j ≠ 5 → j ≠ 6 → j ≠ 7 → j ≠ 408 + y.1.2.1 → j ≠ 708 + y.1.2.1 → K9 j = am_A τ8 16 25 j := fun j h1 h2 h3 h4 h5 h6 => by rw [hK, upd_n h4, upd_n h3, upd_n h2, upd_n h1, upd_n h6, upd_n h5]
                have hf9 : mo_RF τ6 τ9 := by rw [hτ9]; exact (hf7.tr hf8).sA (by rfl) _
                refine kb_11_asks_237 (hq := ?_)
                rw [← hQ, eA]
                obtain ⟨⟨m1, m2, m3, m4, m5, m6⟩, m7, m8⟩ := hX8
                rw [v2, v3, v1, u1, u2, u3] at m6
                refine ⟨rfl, h.chg ⟨⟨m1, by show y.1.2.1 + 1 ≤ 300; omega, ?_, ?_, fun i hi => ?_, fun k hk => ?_⟩, m7, ?_⟩ rfl (fun j hj => ?_) hf9 ?_ ?_ ?_ ?_ ?_, hf9⟩
                · rw [← hK9, K1 0 (by omega) (by omega) (by omega) (by omega) (by omega) (by omega)]; exact m3
                · rw [← hK9, hK, upd_n (by omega), upd_n (by omega), upd_n (by omega), upd_s]; rfl
                · have hi' : i < (te_add (te_add y.1 s).1 t).1.1 := hi
                  rw [← hK9, K1 (8 + i) (by omega) (by omega) (by omega) (by omega) (by omega) (by omega), K1 (208 + i) (by omega) (by omega) (by omega) (by omega) (by omega) (by omega)]
                  exact m5 i hi'
                · have hk' : k < y.1.2.1 + 1 := hk
                  show am_A τ9 16 25 (408 + k) = nI (am_un y.1.2.2.2.2.1 y.1.2.1 (te_add y.1 s).2 k) ∧ am_A τ9 16 25 (708 + k) = nI (am_un y.1.2.2.2.2.2 y.1.2.1 (te_add (te_add y.1 s).1 t).2 k) ∧ am_un y.1.2.2.2.2.1 y.1.2.1 (te_add y.1 s).2 k < (te_add (te_add y.1 s).1 t).1.1 ∧ am_un y.1.2.2.2.2.2 y.1.2.1 (te_add (te_add y.1 s).1 t).2 k < (te_add (te_add y.1 s).1 t).1.1
                  rw [← hK9]
                  by_cases e : k = y.1.2.1
                  · rw [e, am_un_s, am_un_s, hK, upd_n (by omega), upd_n (by omega), upd_n (by omega), upd_n (by omega), upd_n (by omega), upd_s, upd_n (by omega), upd_n (by omega), upd_n (by omega), upd_n (by omega), upd_s]
                    exact ⟨rfl, rfl, by omega, v5⟩
                  · rw [am_un_n e, am_un_n e, K1 (408 + k) (by omega) (by omega) (by omega) (by omega) (by omega) (by omega), K1 (708 + k) (by omega) (by omega) (by omega) (by omega) (by omega) (by omega)]
                    exact m6 k (by omega)
                · rw [hτ9, am_A_sA, if_neg (by simp)]; exact m8
                · rw [← hK9, K1 j (by omega) (by omega) (by omega) (by omega) (by omega) (by omega), hc8 j (by omega), hc7 j (by omega)]
                · rw [← hK9, K1 4 (by omega) (by omega) (by omega) (by omega) (by omega) (by omega), hc8 4 (by omega), hc7 4 (by omega), g4, he]; rfl
                · rw [← hK9, K1 3 (by omega) (by omega) (by omega) (by omega) (by omega) (by omega), hc8 3 (by omega), hc7 3 (by omega), g3]; rfl
                · rw [← hK9, hK, upd_n (by omega), upd_n (by omega), upd_s]; rfl
                · rw [← hK9, hK, upd_n (by omega), upd_s]; rfl
                · rw [← hK9, hK, upd_s]; rfl
              · rw [e2, e200, nI_leI (by omega) (by omega)] at c
                exact full (by unfold te_pair; rw [if_pos (by omega)]) _ _
      refine kb_11_asks_88 (k := ?_)
      have := loop N 0 (by omega) rfl (some (.int (-1))) (am_bI false) none none
      rw [nI_0] at this
      exact this
end MASKS
