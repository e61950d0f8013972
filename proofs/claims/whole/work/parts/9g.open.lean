/-! the reference's isMark; the class's Tokens.open -/
section OPEN
variable {d : Nat} {σ : am_St}
theorem sp_11_isMark {c : Nat} (hc : c < 256) : am_C true ya_11_isMark d [.int (nI c)] σ (fun r τ => τ = σ ∧ r = some (.int (am_bI (tk_mk c)))) := by
  refine am_enter rfl (by simp [Value.category]) (Nat.le_of_ble_eq_true rfl) ?_
  have yes : ∀ m, m < 256 → nI c = nI m → tk_mk m = true → am_T true ya_11_isMark d (fun r τ => τ = σ ∧ r = some (.int (am_bI (tk_mk c)))) 42 [some (.int (nI c))] [] σ := fun m hm z b => by
    have e : c = m := nI_inj (by omega) (by omega) z
    rw [e, b]
    exact kb_11_isMark_42 (k := kb_11_isMark_47 (hb0 := rfl) (hq := ⟨rfl, rfl⟩))
  have ne : ∀ m, ¬ nI c = nI m → c ≠ m := fun m h e => h (by rw [e])
  refine kb_11_isMark_0 (kt := fun z => yes 59 (by decide) z (by decide)) (kf := fun z1 => ?_)
  refine kb_11_isMark_6 (kt := fun z => yes 60 (by decide) z (by decide)) (kf := fun z2 => ?_)
  refine kb_11_isMark_12 (kt := fun z => yes 61 (by decide) z (by decide)) (kf := fun z3 => ?_)
  refine kb_11_isMark_18 (kt := fun z => yes 62 (by decide) z (by decide)) (kf := fun z4 => ?_)
  refine kb_11_isMark_24 (kt := fun z => yes 43 (by decide) z (by decide)) (kf := fun z5 => ?_)
  refine kb_11_isMark_30 (kt := fun z => yes 45 (by decide) z (by decide)) (kf := fun z6 => ?_)
  refine kb_11_isMark_36 (kf := fun z => yes 42 (by decide) z (by decide)) (kt := fun z7 => ?_)
  have b : tk_mk c = false := by
    unfold tk_mk
    exact decide_eq_false (fun q => by
      rcases q with q | q | q | q | q | q | q
      · exact ne 59 z1 q
      · exact ne 60 z2 q
      · exact ne 61 z3 q
      · exact ne 62 z4 q
      · exact ne 43 z5 q
      · exact ne 45 z6 q
      · exact ne 42 z7 q)
  rw [b]
  exact kb_11_isMark_46 (k := kb_11_isMark_47 (hb0 := rfl) (hq := ⟨rfl, rfl⟩))
theorem sp_7_open {t : Nat} (h0 : am_I σ 3 0 = nI t) (ht : t ≤ 900) (kd pl : Int32) : am_C false ya_7_open d [.ref (am_oid 3), .int kd, .int pl] σ (fun r τ => r = none ∧ am_On 3 σ τ ∧ am_I τ 3 0 = nI (t + 1) ∧ am_A τ 3 1 = upd (am_A σ 3 1) t kd ∧ am_A τ 3 2 = upd (am_A σ 3 2) t pl ∧ am_A τ 3 3 = upd (am_A σ 3 3) t 0 ∧ am_A τ 3 4 = upd (am_A σ 3 4) t (-1)) := by
  have v : vp_in (am_I σ 3 0) 901 := by rw [h0]; exact vp_in_nI (by omega) (by omega)
  refine am_enter rfl (by simp [Value.category]) (Nat.le_of_ble_eq_true rfl) ?_
  refine kb_7_open_0 (kt := fun z => absurd z (by rw [h0, show (900 : Int32) = nI 900 from rfl]; exact nI_nlt (by omega) (by omega))) (kf := fun _ => ?_)
  refine kb_7_open_10 (hi0 := v) (hi1 := v) (hi2 := v) (hi3 := v) (k := kb_7_open_60 ?_)
  rw [h0, nI_clamp (show t < 2 ^ 31 by omega), nI_1]
  refine ⟨rfl, ((((am_On.rf.sA _ _).sA _ _).sA _ _).sA _ _).sI _ _, by rw [am_I_sI, if_pos ⟨rfl, rfl⟩], ?_, ?_, ?_, ?_⟩
  · show am_A (am_sA (am_sA (am_sA (am_sA σ 3 1 _) 3 2 _) 3 3 _) 3 4 _) 3 1 = _
    rw [am_A_sA, if_neg (by simp), am_A_sA, if_neg (by simp), am_A_sA, if_neg (by simp), am_A_sA, if_pos ⟨rfl, rfl⟩]
  · show am_A (am_sA (am_sA (am_sA (am_sA σ 3 1 _) 3 2 _) 3 3 _) 3 4 _) 3 2 = _
    rw [am_A_sA, if_neg (by simp), am_A_sA, if_neg (by simp), am_A_sA, if_pos ⟨rfl, rfl⟩]
  · show am_A (am_sA (am_sA (am_sA (am_sA σ 3 1 _) 3 2 _) 3 3 _) 3 4 _) 3 3 = _
    rw [am_A_sA, if_neg (by simp), am_A_sA, if_pos ⟨rfl, rfl⟩]
  · show am_A (am_sA (am_sA (am_sA (am_sA σ 3 1 _) 3 2 _) 3 3 _) 3 4 _) 3 4 = _
    rw [am_A_sA, if_pos ⟨rfl, rfl⟩]
end OPEN
