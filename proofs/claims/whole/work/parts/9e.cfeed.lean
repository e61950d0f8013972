/-! the class's feed -/
section CFEED
variable {d tl : Nat} {tp : Nat → Int32} {σ : am_St}
/-- one word more on the tape -/
theorem fd_step {τ : am_St} {q : Nat} {x1 x2 x3 x4 x5 x : Int32} (hx : ∀ j, j < 4 → fd_x x1 x2 x3 x4 x5 (4 * q + j) = x) (hb : ∀ i, i < tl + 4 * q → am_A σ 0 0 i &&& 255 = fd_t tp tl x1 x2 x3 x4 x5 i) (h1 : ∀ i, i < tl + 4 * q → am_A τ 0 0 i = am_A σ 0 0 i) (h2 : ∀ j, j < 4 → am_A τ 0 0 (tl + 4 * q + j) &&& 255 = fd_b x j) : ∀ i, i < tl + 4 * (q + 1) → am_A τ 0 0 i &&& 255 = fd_t tp tl x1 x2 x3 x4 x5 i := by
  intro i hi
  rcases Nat.lt_or_ge i (tl + 4 * q) with c | c
  · rw [h1 i c]; exact hb i c
  · obtain ⟨j, hj, e⟩ : ∃ j, j < 4 ∧ i = tl + 4 * q + j := ⟨i - (tl + 4 * q), by omega, by omega⟩
    rw [e, h2 j hj]
    unfold fd_t
    rw [if_neg (by omega), show tl + 4 * q + j - tl = 4 * q + j by omega, hx j hj, fd_b_mod]
theorem sp_10_feed (h1 : am_I σ 0 1 = nI tl) (ht : tl ≤ 900) (hp : ∀ i, i < tl → am_A σ 0 0 i &&& 255 = tp i) (x1 x2 x3 x4 x5 : Int32) : am_C false ya_10_feed (d + 1) [.ref (am_oid 0), .int x1, .int x2, .int x3, .int x4, .int x5] σ (fun r τ => r = some (.int (fd_r tl)) ∧ fr_0 σ τ ∧ am_I τ 0 1 = nI (fd_n tl) ∧ ∀ i, i < fd_n tl → am_A τ 0 0 i &&& 255 = fd_tp tp tl x1 x2 x3 x4 x5 i) := by
  have e20 : nI tl + 20 = nI (tl + 20) := by rw [show (20 : Int32) = nI 20 from rfl, nI_add]
  have e900 : (900 : Int32) = nI 900 := rfl
  refine am_enter rfl (by simp [Value.category]) (Nat.le_of_ble_eq_true rfl) ?_
  by_cases c : tl ≤ 880
  · have e1 : fd_r tl = nI (tl + 20) := by unfold fd_r; rw [if_pos c]
    have e2 : fd_n tl = tl + 20 := by unfold fd_n; rw [if_pos c]
    have e3 : fd_tp tp tl x1 x2 x3 x4 x5 = fd_t tp tl x1 x2 x3 x4 x5 := by unfold fd_tp; rw [if_pos c]
    rw [e1, e2, e3]
    have b0 : ∀ i, i < tl + 4 * 0 → am_A σ 0 0 i &&& 255 = fd_t tp tl x1 x2 x3 x4 x5 i := fun i hi => by
      unfold fd_t; rw [if_pos (by omega)]; exact hp i (by omega)
    refine kb_10_feed_0 (kt := fun _ => ?_) (kf := fun z => absurd (by rw [h1, e20, e900]; exact nI_le (by omega) (by omega)) z)
    refine kb_10_feed_15 (hC := sp_10_append (tl := tl + 4 * 0) h1 (by omega) x1) (k := fun r τ1 hr => ?_)
    obtain ⟨rfl, F1, i1, p1, q1⟩ := hr
    have b1 := fd_step (q := 0) (fun j hj => by unfold fd_x; rw [if_pos (by omega)]) b0 p1 q1
    refine kb_10_feed_20 (hC := sp_10_append (tl := tl + 4 * 1) i1 (by omega) x2) (k := fun r τ2 hr => ?_)
    obtain ⟨rfl, F2, i2, p2, q2⟩ := hr
    have b2 := fd_step (q := 1) (fun j hj => by unfold fd_x; rw [if_neg (by omega), if_pos (by omega)]) b1 p2 q2
    refine kb_10_feed_25 (hC := sp_10_append (tl := tl + 4 * 2) i2 (by omega) x3) (k := fun r τ3 hr => ?_)
    obtain ⟨rfl, F3, i3, p3, q3⟩ := hr
    have b3 := fd_step (q := 2) (fun j hj => by unfold fd_x; rw [if_neg (by omega), if_neg (by omega), if_pos (by omega)]) b2 p3 q3
    refine kb_10_feed_30 (hC := sp_10_append (tl := tl + 4 * 3) i3 (by omega) x4) (k := fun r τ4 hr => ?_)
    obtain ⟨rfl, F4, i4, p4, q4⟩ := hr
    have b4 := fd_step (q := 3) (fun j hj => by unfold fd_x; rw [if_neg (by omega), if_neg (by omega), if_neg (by omega), if_pos (by omega)]) b3 p4 q4
    refine kb_10_feed_36 (hC := sp_10_append (tl := tl + 4 * 4) i4 (by omega) x5) (k := fun r τ5 hr => ?_)
    obtain ⟨rfl, F5, i5, p5, q5⟩ := hr
    have b5 := fd_step (q := 4) (fun j hj => by unfold fd_x; rw [if_neg (by omega), if_neg (by omega), if_neg (by omega), if_neg (by omega)]) b4 p5 q5
    refine kb_10_feed_42 ⟨by rw [i5], (((F1.tr F2).tr F3).tr F4).tr F5, i5, b5⟩
  · have e1 : fd_r tl = -1 := by unfold fd_r; rw [if_neg c]
    have e2 : fd_n tl = tl := by unfold fd_n; rw [if_neg c]
    have e3 : fd_tp tp tl x1 x2 x3 x4 x5 = tp := by unfold fd_tp; rw [if_neg c]
    rw [e1, e2, e3]
    exact kb_10_feed_0 (kf := fun _ => kb_10_feed_13 ⟨rfl, fr_0.rf, h1, hp⟩) (kt := fun z => absurd z (by rw [h1, e20, e900]; exact nI_ge (by omega) (by omega)))
end CFEED
