/-! feed: the tape on both sides -/
theorem by_255 (x : Int32) : x.toInt8.toInt32 &&& 255 = x &&& 255 := by
  apply Int32.toBitVec_inj.mp
  apply BitVec.eq_of_getLsbD_eq
  intro i hi
  have h255 : ∀ i, i < 32 → (255#32).getLsbD i = decide (i < 8) := by decide
  show ((x.toBitVec.signExtend 8).signExtend 32 &&& 255#32).getLsbD i = (x.toBitVec &&& 255#32).getLsbD i
  rw [BitVec.getLsbD_and, BitVec.getLsbD_and, h255 i hi]
  by_cases c : i < 8
  · rw [BitVec.getLsbD_signExtend, BitVec.getLsbD_signExtend]
    simp [c, hi]
  · simp [c]
theorem by_nar (x : Int32) : vp_nar .byte (x.toInt8.toInt32) &&& 255 = x &&& 255 := by
  rw [vp_nar_byte, by_255, by_255]
def fd_b (x : Int32) (k : Nat) : Int32 := (x >>> (nI (24 - 8 * (k % 4)) &&& 31)) &&& 255
def fd_x (x1 x2 x3 x4 x5 : Int32) (k : Nat) : Int32 := if k < 4 then x1 else if k < 8 then x2 else if k < 12 then x3 else if k < 16 then x4 else x5
def fd_t (tp : Nat → Int32) (tl : Nat) (x1 x2 x3 x4 x5 : Int32) : Nat → Int32 := fun i => if i < tl then tp i else fd_b (fd_x x1 x2 x3 x4 x5 (i - tl)) (i - tl)
def fd_n (tl : Nat) : Nat := if tl ≤ 880 then tl + 20 else tl
def fd_r (tl : Nat) : Int32 := if tl ≤ 880 then nI (tl + 20) else -1
def fd_tp (tp : Nat → Int32) (tl : Nat) (x1 x2 x3 x4 x5 : Int32) : Nat → Int32 := if tl ≤ 880 then fd_t tp tl x1 x2 x3 x4 x5 else tp
theorem fd_b_mod (x : Int32) (q j : Nat) : fd_b x (4 * q + j) = fd_b x j := by
  unfold fd_b
  rw [show (4 * q + j) % 4 = j % 4 by omega]
section FEED
variable {d tl : Nat} {tp : Nat → Int32} {σ : am_St}
theorem sp_11_feed (h2 : am_I σ 16 2 = nI tl) (ht : tl ≤ 900) (hp : ∀ i, i < tl → am_A σ 16 1 i = tp i) (x1 x2 x3 x4 x5 : Int32) : am_C true ya_11_feed d [.ref (am_oid 16), .int x1, .int x2, .int x3, .int x4, .int x5] σ (fun r τ => r = some (.int (fd_r tl)) ∧ mo_Fm [0, 2] [1] σ τ ∧ am_I τ 16 2 = nI (fd_n tl) ∧ ∀ i, i < fd_n tl → am_A τ 16 1 i = fd_tp tp tl x1 x2 x3 x4 x5 i) := by
  have F0 : mo_Fm [0, 2] [1] σ (am_sI σ 16 0 0) := mo_Fm.rf.sI (by rfl) _
  refine am_enter rfl (by simp [Value.category]) (Nat.le_of_ble_eq_true rfl) ?_
  by_cases c : tl ≤ 880
  · have e1 : fd_r tl = nI (tl + 20) := by unfold fd_r; rw [if_pos c]
    have e2 : fd_n tl = tl + 20 := by unfold fd_n; rw [if_pos c]
    have e3 : fd_tp tp tl x1 x2 x3 x4 x5 = fd_t tp tl x1 x2 x3 x4 x5 := by unfold fd_tp; rw [if_pos c]
    rw [e1, e2, e3]
    refine kb_11_feed_0 (kt := fun _ => kb_11_feed_17 (k := ?_)) (kf := fun z => absurd (by rw [h2, show (880 : Int32) = nI 880 from rfl]; exact nI_le c (by omega)) z)
    obtain ⟨σ', hσ'⟩ : ∃ σ', σ' = am_sI σ 16 0 0 := ⟨_, rfl⟩
    rw [← hσ'] at F0 ⊢
    have i2 : am_I σ' 16 2 = nI tl := by rw [hσ', am_I_sI, if_neg (by simp)]; exact h2
    have a1 : ∀ i, i < tl → am_A σ' 16 1 i = tp i := fun i hi => by rw [hσ']; exact hp i hi
    have eL : ∀ G : Nat → Int32, am_A (am_sA σ' 16 1 G) 16 1 = G := fun G => by rw [am_A_sA, if_pos ⟨rfl, rfl⟩]
    have loop : ∀ (j k : Nat) (a7 : Option Value), k + j = 20 → ∀ G : Nat → Int32, (∀ i, i < tl + k → G i = fd_t tp tl x1 x2 x3 x4 x5 i) → am_T true ya_11_feed d (fun r τ => r = some (.int (nI (tl + 20))) ∧ mo_Fm [0, 2] [1] σ τ ∧ am_I τ 16 2 = nI (tl + 20) ∧ ∀ i, i < tl + 20 → am_A τ 16 1 i = fd_t tp tl x1 x2 x3 x4 x5 i) 20 [some (.ref (am_oid 16)), some (.int x1), some (.int x2), some (.int x3), some (.int x4), some (.int x5), some (.int (nI k)), a7] [] (am_sA σ' 16 1 G) := by
      intro j
      induction j with
      | zero =>
        intro k a7 hk G hG
        have : k = 20 := by omega
        subst this
        refine kb_11_feed_20 (kt := fun _ => kb_11_feed_110 (hq := ?_)) (kf := fun z => absurd (show (20 : Int32) ≤ nI 20 by decide) z)
        have e : am_I (am_sA σ' 16 1 G) 16 2 + 20 = nI (tl + 20) := by
          show am_I σ' 16 2 + 20 = _
          rw [i2, show (20 : Int32) = nI 20 from rfl, nI_add]
        rw [e]
        exact ⟨rfl, (F0.sA (by rfl) _).sI (by rfl) _, by rw [am_I_sI, if_pos ⟨rfl, rfl⟩], fun i hi => by show am_A (am_sA σ' 16 1 G) 16 1 i = _; rw [eL]; exact hG i hi⟩
      | succ j ih =>
        intro k a7 hk G hG
        obtain ⟨x, hx⟩ : ∃ x, x = fd_x x1 x2 x3 x4 x5 k := ⟨_, rfl⟩
        have le : ∀ m : Nat, m < 2 ^ 31 → ∀ P : Prop, (k < m → P) → (¬ k < m → P) → P := fun m _ P a b => by by_cases q : k < m; exact a q; exact b q
        have go : am_T true ya_11_feed d (fun r τ => r = some (.int (nI (tl + 20))) ∧ mo_Fm [0, 2] [1] σ τ ∧ am_I τ 16 2 = nI (tl + 20) ∧ ∀ i, i < tl + 20 → am_A τ 16 1 i = fd_t tp tl x1 x2 x3 x4 x5 i) 73 [some (.ref (am_oid 16)), some (.int x1), some (.int x2), some (.int x3), some (.int x4), some (.int x5), some (.int (nI k)), a7] [.int x] (am_sA σ' 16 1 G) := by
          have ei : am_I (am_sA σ' 16 1 G) 16 2 + nI k = nI (tl + k) := by
            show am_I σ' 16 2 + nI k = _
            rw [i2, nI_add]
          have es : (24 : Int32) - 8 * (nI k - nI k / 4 * 4) = nI (24 - 8 * (k % 4)) := by
            rw [show (4 : Int32) = nI 4 from rfl, pk_rem (by omega) (by decide) (by decide), show (8 : Int32) = nI 8 from rfl, nI_mul, show (24 : Int32) = nI 24 from rfl, pk_sub (by omega)]
          refine kb_11_feed_73 (hi1 := by rw [ei]; exact vp_in_nI (by omega) (by omega)) (k := ?_)
          rw [ei, es, nI_1, nI_clamp (show tl + k < 2 ^ 31 by omega), eL, am_sA_sA]
          refine ih (k + 1) _ (by omega) _ (fun i hi => ?_)
          by_cases q : i = tl + k
          · rw [q, upd_s]
            unfold fd_t
            rw [if_neg (by omega), show tl + k - tl = k by omega, ← hx]
            rfl
          · rw [upd_n q]; exact hG i (by omega)
        refine kb_11_feed_20 (kt := fun z => absurd z (by rw [show (20 : Int32) = nI 20 from rfl]; exact nI_ge (by omega) (by omega))) (kf := fun _ => ?_)
        have ge : ∀ m : Nat, k < m → m < 2 ^ 31 → ¬ nI m ≤ nI k := fun m a b => nI_ge a b
        have lt : ∀ m : Nat, m ≤ k → nI m ≤ nI k := fun m a => nI_le a (by omega)
        have e4 : (4 : Int32) = nI 4 := rfl
        have e8 : (8 : Int32) = nI 8 := rfl
        have e12 : (12 : Int32) = nI 12 := rfl
        have e16 : (16 : Int32) = nI 16 := rfl
        unfold fd_x at hx
        by_cases q1 : k < 4
        · rw [if_pos q1] at hx
          exact kb_11_feed_27 (kt := fun z => absurd z (by rw [e4]; exact ge 4 q1 (by decide))) (kf := fun _ => kb_11_feed_33 (k := by rw [← hx]; rw [hx]; rw [hx] at go; exact go))
        · rw [if_neg q1] at hx
          refine kb_11_feed_27 (kf := fun z => absurd (by rw [e4]; exact lt 4 (by omega)) z) (kt := fun _ => ?_)
          by_cases q2 : k < 8
          · rw [if_pos q2] at hx
            exact kb_11_feed_37 (kt := fun z => absurd z (by rw [e8]; exact ge 8 q2 (by decide))) (kf := fun _ => kb_11_feed_44 (k := by rw [hx] at go; exact go))
          · rw [if_neg q2] at hx
            refine kb_11_feed_37 (kf := fun z => absurd (by rw [e8]; exact lt 8 (by omega)) z) (kt := fun _ => ?_)
            by_cases q3 : k < 12
            · rw [if_pos q3] at hx
              exact kb_11_feed_48 (kt := fun z => absurd z (by rw [e12]; exact ge 12 q3 (by decide))) (kf := fun _ => kb_11_feed_55 (k := by rw [hx] at go; exact go))
            · rw [if_neg q3] at hx
              refine kb_11_feed_48 (kf := fun z => absurd (by rw [e12]; exact lt 12 (by omega)) z) (kt := fun _ => ?_)
              by_cases q4 : k < 16
              · rw [if_pos q4] at hx
                exact kb_11_feed_59 (kt := fun z => absurd z (by rw [e16]; exact ge 16 q4 (by decide))) (kf := fun _ => kb_11_feed_66 (k := by rw [hx] at go; exact go))
              · rw [if_neg q4] at hx
                exact kb_11_feed_59 (kf := fun z => absurd (by rw [e16]; exact lt 16 (by omega)) z) (kt := fun _ => kb_11_feed_71 (k := by rw [hx] at go; exact go))
    have := loop 20 0 none (by omega) (am_A σ' 16 1) (fun i hi => by unfold fd_t; rw [if_pos (by omega)]; exact a1 i (by omega))
    rw [am_sA_id, nI_0] at this
    exact this
  · have e1 : fd_r tl = -1 := by unfold fd_r; rw [if_neg c]
    have e2 : fd_n tl = tl := by unfold fd_n; rw [if_neg c]
    have e3 : fd_tp tp tl x1 x2 x3 x4 x5 = tp := by unfold fd_tp; rw [if_neg c]
    rw [e1, e2, e3]
    exact kb_11_feed_0 (kf := fun _ => kb_11_feed_15 ⟨rfl, F0, by rw [am_I_sI, if_neg (by simp)]; exact h2, hp⟩) (kt := fun z => absurd (show am_I σ 16 2 ≤ 880 from z) (by rw [h2, show (880 : Int32) = nI 880 from rfl]; exact nI_ge (by omega) (by omega)))
/-! the class -/
def fr_0 (σ τ : am_St) : Prop := (∀ k, k ≠ 1 → am_I τ 0 k = am_I σ 0 k) ∧ (∀ k, k ≠ 0 → am_A τ 0 k = am_A σ 0 k) ∧ ∀ o, o ≠ 0 → am_Eo o σ τ
theorem fr_0.rf : fr_0 σ σ := ⟨fun _ _ => rfl, fun _ _ => rfl, fun _ _ => am_Eo.rf⟩
theorem fr_0.tr {τ υ : am_St} (h : fr_0 σ τ) (h' : fr_0 τ υ) : fr_0 σ υ := ⟨fun k a => (h'.1 k a).trans (h.1 k a), fun k a => (h'.2.1 k a).trans (h.2.1 k a), fun o a => (h.2.2 o a).tr (h'.2.2 o a)⟩
theorem fr_0.st {τ : am_St} (h : fr_0 σ τ) (f : Nat → Int32) (v : Int32) : fr_0 σ (am_sI (am_sA τ 0 0 f) 0 1 v) := by
  refine ⟨fun k a => ?_, fun k a => ?_, fun o a => (h.2.2 o a).tr ⟨fun k => ?_, fun k => ?_, rfl, fun _ => rfl⟩⟩
  · rw [am_I_sI, if_neg (fun z => a z.1)]; exact h.1 k a
  · show am_A (am_sA τ 0 0 f) 0 k = _
    rw [am_A_sA, if_neg (fun z => a z.1)]; exact h.2.1 k a
  · rw [am_I_sI, if_neg (fun z => a z.2)]; rfl
  · show am_A (am_sA τ 0 0 f) o k = _
    rw [am_A_sA, if_neg (fun z => a z.2)]
theorem sp_10_append (h1 : am_I σ 0 1 = nI tl) (ht : tl + 4 ≤ 900) (x : Int32) : am_C false ya_10_append d [.ref (am_oid 0), .int x] σ (fun r τ => r = none ∧ fr_0 σ τ ∧ am_I τ 0 1 = nI (tl + 4) ∧ (∀ i, i < tl → am_A τ 0 0 i = am_A σ 0 0 i) ∧ ∀ j, j < 4 → am_A τ 0 0 (tl + j) &&& 255 = fd_b x j) := by
  have loop : ∀ (m j : Nat) (τ : am_St), j + m = 4 → fr_0 σ τ → am_I τ 0 1 = nI (tl + j) → (∀ i, i < tl → am_A τ 0 0 i = am_A σ 0 0 i) → (∀ i, i < j → am_A τ 0 0 (tl + i) &&& 255 = fd_b x i) → am_T false ya_10_append d (fun r τ => r = none ∧ fr_0 σ τ ∧ am_I τ 0 1 = nI (tl + 4) ∧ (∀ i, i < tl → am_A τ 0 0 i = am_A σ 0 0 i) ∧ ∀ j, j < 4 → am_A τ 0 0 (tl + j) &&& 255 = fd_b x j) 3 [some (.ref (am_oid 0)), some (.int x), some (.int (iI (24 - 8 * (j : Int))))] [] τ := by
    intro m
    induction m with
    | zero =>
      intro j τ hj F a1 a2 a3
      have : j = 4 := by omega
      subst this
      exact kb_10_append_3 (kt := fun _ => kb_10_append_46 ⟨rfl, F, a1, a2, a3⟩) (kf := fun z => absurd (show iI (24 - 8 * ((4 : Nat) : Int)) < 0 by decide) z)
    | succ m ih =>
      intro j τ hj F a1 a2 a3
      have eI : iI (24 - 8 * (j : Int)) = nI (24 - 8 * j) := by rw [← iI_n]; congr 1; omega
      have en : iI (24 - 8 * (j : Int)) + (-8) = iI (24 - 8 * ((j + 1 : Nat) : Int)) := by
        rw [show (-8 : Int32) = iI (-8) from by decide, iI_add]
        congr 1; omega
      refine kb_10_append_3 (kt := fun z => absurd z (by rw [eI]; exact nI_pos (by omega))) (kf := fun _ => ?_)
      refine kb_10_append_7 (kt := fun z => absurd z (by rw [a1, show (900 : Int32) = nI 900 from rfl]; exact nI_ge (by omega) (by omega))) (kf := fun _ => ?_)
      refine kb_10_append_17 (hi0 := by rw [a1]; exact vp_in_nI (by omega) (by omega)) (k := ?_)
      rw [en, a1, nI_1, nI_clamp (show tl + j < 2 ^ 31 by omega)]
      have eL : ∀ (f : Nat → Int32) (v : Int32), am_A (am_sI (am_sA τ 0 0 f) 0 1 v) 0 0 = f := fun f v => by show am_A (am_sA τ 0 0 f) 0 0 = f; rw [am_A_sA, if_pos ⟨rfl, rfl⟩]
      refine ih (j + 1) _ (by omega) (F.st _ _) (by rw [am_I_sI, if_pos ⟨rfl, rfl⟩, Nat.add_assoc]) (fun i hi => by rw [eL, upd_n (by omega)]; exact a2 i hi) (fun i hi => ?_)
      rw [eL]
      by_cases c : i = j
      · rw [c, upd_s, by_nar, eI]
        unfold fd_b
        rw [show j % 4 = j by omega]
      · rw [upd_n (by omega)]; exact a3 i (by omega)
  refine am_enter rfl (by simp [Value.category]) (Nat.le_of_ble_eq_true rfl) (kb_10_append_0 (k := ?_))
  have := loop 4 0 σ (by omega) fr_0.rf h1 (fun _ _ => rfl) (fun i hi => absurd hi (Nat.not_lt_zero i))
  rw [show iI (24 - 8 * ((0 : Nat) : Int)) = 24 from by decide] at this
  exact this
end FEED
