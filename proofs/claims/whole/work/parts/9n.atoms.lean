/-! the class's reader: atoms, conditions, tests, the head of a line -/
section ATOMS
variable {d m nv i : Nat} {S : Nat → tk_T} {nm : Nat → Nat} {σ : am_St}
theorem rd_A.cg {τ : am_St} (h : rd_A σ S m nv nm i) (E2 : ∀ k, am_I τ 2 k = am_I σ 2 k) (E3 : am_Eo 3 σ τ) : rd_A τ S m nv nm i := by
  obtain ⟨⟨h1, h2, h3, h4, h5, h6⟩, ⟨k1, k2, k3, k4, k5, k6, k7⟩, hv⟩ := h
  exact ⟨⟨h1, (E3.1 0).trans h2, h3, h4, fun t ht => by rw [E3.2.1, E3.2.1, E3.2.1, E3.2.1]; exact h5 t ht, h6⟩, ⟨k1, (E2 2).trans k2, (E2 3).trans k3, (E2 4).trans k4, (E2 5).trans k5, (E2 10).trans k6, (E2 11).trans k7⟩, (E2 6).trans hv⟩
theorem rd_A.o1 {τ : am_St} (h : rd_A σ S m nv nm i) (F : am_On 1 σ τ) : rd_A τ S m nv nm i := h.cg (fun k => F.1 2 k (by decide)) (F.eo (by decide))
theorem rd_A.k0 (h : rd_A σ S m nv nm i) {x : Nat} (hx : x < 256) : (am_I σ 2 3 = nI x) = ((S i).1 = x) := by rw [h.2.1.2.2.1, rd_k h.1 h.2.1.1 hx]
theorem sp_4_readAtom {A : pa_A} (h : rd_A σ S m nv nm i) (hA : cq_At σ A) (hn : A.1 < 144) : am_C false ya_4_readAtom (d + 3) [.ref (am_oid 2)] σ (fun r τ => fr_1 [5] [10, 11] σ τ ∧ rd_R (pa_am S nv nm i) (fun x τ => rd_A τ S m nv nm x.1 ∧ cq_At τ (pa_ad A x.2.1 x.2.2)) r τ) := by
  refine am_enter rfl (by simp [Value.category]) (Nat.le_of_ble_eq_true rfl) ?_
  refine kb_4_readAtom_0 (hC := sp_fill false (d + 2) 2 9 4 4 0 σ rfl (by decide) rfl (by decide)) (k := fun r τ0 hr => ?_)
  obtain ⟨rfl, h0⟩ := hr
  have F0 : am_On 2 σ τ0 := by rw [h0]; exact am_On.rf.sA _ _
  have hR0 : rd_A τ0 S m nv nm i := by rw [h0]; exact h.sA
  have hf0 : rd_f (fun _ => 0) τ0 := fun j hj => by
    rw [h0, am_A_sA, if_pos ⟨rfl, rfl⟩]
    unfold am_fill
    rw [if_pos hj]
  refine kb_4_readAtom_8 (hC := sp_4_readExpression 1 hR0 hf0) (k := fun r τ1 hr => ?_)
  obtain ⟨F1, hr⟩ := hr
  have F01 := F0.tr F1
  unfold pa_am
  cases ex : pa_sm S nv nm 1 12 i 1 (fun _ => 0) with
  | inl e =>
    rw [ex] at hr
    obtain ⟨rfl, a, b⟩ := hr
    exact kb_4_readAtom_13 (kt := fun z => absurd rfl z) (kf := fun _ => kb_4_readAtom_16 ⟨F01.f1, rfl, a, b⟩)
  | inr x =>
    rw [ex] at hr
    obtain ⟨rfl, hR1, hf1⟩ := hr
    refine kb_4_readAtom_13 (kf := fun z => absurd z (by decide)) (kt := fun _ => ?_)
    show am_T false ya_4_readAtom (d + 3) (fun r τ => fr_1 [5] [10, 11] σ τ ∧ rd_R (if pa_cm (S x.1).1 = true then (match pa_sm S nv nm (-1) 12 (x.1 + 1) (-1) x.2 with
      | .inl e => .inl e
      | .inr y => .inr (y.1, nI (S x.1).1, y.2)) else .inl (1, (S x.1).2.1)) (fun x τ => rd_A τ S m nv nm x.1 ∧ cq_At τ (pa_ad A x.2.1 x.2.2)) r τ) _ _ _ _
    have k60 := hR1.k0 (x := 60) (by decide)
    have k61 := hR1.k0 (x := 61) (by decide)
    have k62 := hR1.k0 (x := 62) (by decide)
    cases hc : pa_cm (S x.1).1 with
    | false =>
      have hc2 : ¬ ((S x.1).1 = 60 ∨ (S x.1).1 = 61 ∨ (S x.1).1 = 62) := of_decide_eq_false hc
      refine kb_4_readAtom_18 (kt := fun z => absurd (Or.inl (k60.mp z)) hc2) (kf := fun _ => ?_)
      refine kb_4_readAtom_29 (kt := fun z => absurd (Or.inr (Or.inl (k61.mp z))) hc2) (kf := fun _ => ?_)
      refine kb_4_readAtom_35 (kt := fun z => absurd (Or.inr (Or.inr (k62.mp z))) hc2) (kf := fun _ => ?_)
      refine kb_4_readAtom_41 (hC := sp_4_refuse _ _) (k := fun r υ hr => ?_)
      obtain ⟨F2, rfl, a, b⟩ := hr
      exact kb_4_readAtom_50 (hb0 := rfl) (hq := ⟨(F01.tr F2).f1, rfl, a, by rw [b]; exact hR1.2.1.2.2.2.1⟩)
    | true =>
      have hc2 : (S x.1).1 = 60 ∨ (S x.1).1 = 61 ∨ (S x.1).1 = 62 := of_decide_eq_true hc
      rw [if_pos rfl]
      have go : am_T false ya_4_readAtom (d + 3) (fun r τ => fr_1 [5] [10, 11] σ τ ∧ rd_R (match pa_sm S nv nm (-1) 12 (x.1 + 1) (-1) x.2 with
          | .inl e => .inl e
          | .inr y => .inr (y.1, nI (S x.1).1, y.2)) (fun x τ => rd_A τ S m nv nm x.1 ∧ cq_At τ (pa_ad A x.2.1 x.2.2)) r τ) 51 [some (.ref (am_oid 2)), some (.int (am_I τ1 2 3))] [] τ1 := by
        refine kb_4_readAtom_51 (hC := sp_4_advance hR1.1 hR1.2.1 (by omega)) (k := fun r τ2 hr => ?_)
        obtain ⟨rfl, F2, hR2⟩ := hr
        refine kb_4_readAtom_55 (hC := sp_4_readExpression (f := x.2) (-1) hR2 (fun j hj => by rw [F2.2.1 9]; exact hf1 j hj)) (k := fun r τ3 hr => ?_)
        obtain ⟨F3, hr⟩ := hr
        have F03 := (F01.tr F2.1).tr F3
        cases ey : pa_sm S nv nm (-1) 12 (x.1 + 1) (-1) x.2 with
        | inl e =>
          rw [ey] at hr
          obtain ⟨rfl, a, b⟩ := hr
          exact kb_4_readAtom_60 (kt := fun z => absurd rfl z) (kf := fun _ => kb_4_readAtom_63 ⟨F03.f1, rfl, a, b⟩)
        | inr y =>
          rw [ey] at hr
          obtain ⟨rfl, hR3, hf3⟩ := hr
          refine kb_4_readAtom_60 (kf := fun z => absurd z (by decide)) (kt := fun _ => ?_)
          rw [hR1.2.1.2.2.1]
          refine kb_4_readAtom_65 (hC := sp_2_addAtom (hA.on F03) hn hf3 _) (k := fun r τ4 hr => ?_)
          obtain ⟨rfl, F4, F4', hA4⟩ := hr
          exact kb_4_readAtom_77 ⟨(F03.f1).tr F4', rfl, hR3.o1 F4, hA4⟩
      rcases hc2 with z | z | z
      · exact kb_4_readAtom_18 (kf := fun w => absurd (k60.mpr z) w) (kt := fun _ => go)
      · refine kb_4_readAtom_18 (kt := fun w => absurd (k60.mp w) (by omega)) (kf := fun _ => ?_)
        exact kb_4_readAtom_29 (kf := fun w => absurd (k61.mpr z) w) (kt := fun _ => go)
      · refine kb_4_readAtom_18 (kt := fun w => absurd (k60.mp w) (by omega)) (kf := fun _ => ?_)
        refine kb_4_readAtom_29 (kt := fun w => absurd (k61.mp w) (by omega)) (kf := fun _ => ?_)
        exact kb_4_readAtom_35 (kf := fun w => absurd (k62.mpr z) w) (kt := fun _ => go)
theorem pa_am_no (h : pa_bt S nv nm i = false) : pa_am S nv nm i = .inl (1, (S i).2.1) := by
  have : pa_sm S nv nm 1 12 i 1 (fun _ => 0) = .inl (1, (S i).2.1) := by
    unfold pa_sm
    rw [pa_tm_no h]
  unfold pa_am
  rw [this]
theorem sp_4_readCondition {A : pa_A} {c : Nat} (h : rd_A σ S m nv nm i) (hA : cq_At σ A) (hn : A.1 + 8 ≤ 144) (hc : c < 32) : am_C false ya_4_readCondition (d + 4) [.ref (am_oid 2), .int (nI c)] σ (fun r τ => fr_1 [5] [10, 11, 12, 13] σ τ ∧ rd_R (pa_cd S nv nm 8 i A) (fun x τ => rd_A τ S m nv nm x.1 ∧ cq_At τ x.2 ∧ am_A τ 1 12 = upd (am_A σ 1 12) c (nI A.1) ∧ am_A τ 1 13 = upd (am_A σ 1 13) c (nI x.2.1)) r τ) := by
  have vi : vp_in (nI c) 32 := vp_in_nI hc (by decide)
  have loop : ∀ (n t k : Nat) (B : pa_A) (τ : am_St), t + n = 8 → rd_A τ S m nv nm k → cq_At τ B → B.1 + n ≤ 144 → fr_1 [5] [10, 11, 12, 13] σ τ → am_A τ 1 12 = upd (am_A σ 1 12) c (nI A.1) → am_A τ 1 13 = am_A σ 1 13 → am_T false ya_4_readCondition (d + 4) (fun r τ => fr_1 [5] [10, 11, 12, 13] σ τ ∧ rd_R (pa_cd S nv nm n k B) (fun x τ => rd_A τ S m nv nm x.1 ∧ cq_At τ x.2 ∧ am_A τ 1 12 = upd (am_A σ 1 12) c (nI A.1) ∧ am_A τ 1 13 = upd (am_A σ 1 13) c (nI x.2.1)) r τ) 18 [some (.ref (am_oid 2)), some (.int (nI c)), some (.int (nI t))] [] τ := by
    intro n
    induction n with
    | zero =>
      intro t k B τ ht hR hB hn F e12 e13
      have : t = 8 := by omega
      subst this
      refine kb_4_readCondition_18 (kt := fun z => absurd z (by show ¬ (8 : Int32) < nI 8; decide)) (kf := fun _ => ?_)
      refine kb_4_readCondition_24 (hC := sp_4_beginsTerm hR) (k := fun r υ hr => ?_)
      obtain ⟨rfl, rfl⟩ := hr
      have e0 : pa_cd S nv nm 0 k B = .inl (pa_no S nv nm k) := rfl
      rw [e0]
      unfold pa_no
      cases e : pa_bt S nv nm k with
      | false =>
        refine kb_4_readCondition_28 (kt := fun z => absurd rfl z) (kf := fun _ => ?_)
        refine kb_4_readCondition_31 (hC := sp_4_refuse _ _) (k := fun r ω hr => ?_)
        obtain ⟨F2, rfl, a, b⟩ := hr
        exact kb_4_readCondition_40 (hb0 := rfl) (hq := ⟨F.tr F2.f1, rfl, a, by rw [b]; exact hR.2.1.2.2.2.1⟩)
      | true =>
        refine kb_4_readCondition_28 (kf := fun z => absurd z (by decide)) (kt := fun _ => ?_)
        refine kb_4_readCondition_41 (kt := fun z => absurd rfl z) (kf := fun _ => ?_)
        refine kb_4_readCondition_47 (hC := sp_4_refuse _ _) (k := fun r ω hr => ?_)
        obtain ⟨F2, rfl, a, b⟩ := hr
        exact kb_4_readCondition_56 (hb0 := rfl) (hq := ⟨F.tr F2.f1, rfl, a, by rw [b]; exact hR.2.1.2.2.2.1⟩)
    | succ n ih =>
      intro t k B τ ht hR hB hn F e12 e13
      have e1 : pa_cd S nv nm (n + 1) k B = match pa_am S nv nm k with
        | .inl e => .inl e
        | .inr x => if pa_w 1111 (S x.1) = true then pa_cd S nv nm n (x.1 + 1) (pa_ad B x.2.1 x.2.2) else .inr (x.1, pa_ad B x.2.1 x.2.2) := rfl
      refine kb_4_readCondition_18 (kt := fun z => absurd z (by rw [show (8 : Int32) = nI 8 from rfl]; exact nI_nlt (by omega) (by omega))) (kf := fun _ => ?_)
      refine kb_4_readCondition_24 (hC := sp_4_beginsTerm hR) (k := fun r υ hr => ?_)
      obtain ⟨rfl, rfl⟩ := hr
      cases e : pa_bt S nv nm k with
      | false =>
        rw [pa_am_no e] at e1
        rw [e1]
        refine kb_4_readCondition_28 (kt := fun z => absurd rfl z) (kf := fun _ => ?_)
        refine kb_4_readCondition_31 (hC := sp_4_refuse _ _) (k := fun r ω hr => ?_)
        obtain ⟨F2, rfl, a, b⟩ := hr
        exact kb_4_readCondition_40 (hb0 := rfl) (hq := ⟨F.tr F2.f1, rfl, a, by rw [b]; exact hR.2.1.2.2.2.1⟩)
      | true =>
        refine kb_4_readCondition_28 (kf := fun z => absurd z (by decide)) (kt := fun _ => ?_)
        refine kb_4_readCondition_41 (kf := fun z => absurd (nI_inj (by omega) (by decide) (show nI t = nI 8 from z)) (by omega)) (kt := fun _ => ?_)
        refine kb_4_readCondition_57 (hC := sp_4_readAtom hR hB (by omega)) (k := fun r ω hr => ?_)
        obtain ⟨F2, hr⟩ := hr
        have F12 := F.tr (F2.wid (is' := [5]) (as' := [10, 11, 12, 13]) rfl rfl)
        cases ex : pa_am S nv nm k with
        | inl e' =>
          rw [ex] at hr e1
          obtain ⟨rfl, a, b⟩ := hr
          rw [e1]
          exact kb_4_readCondition_61 (kt := fun z => absurd rfl z) (kf := fun _ => kb_4_readCondition_64 ⟨F12, rfl, a, b⟩)
        | inr x =>
          rw [ex] at hr e1
          obtain ⟨rfl, hR2, hB2⟩ := hr
          rw [e1]
          show am_T false ya_4_readCondition (d + 4) (fun r τ => fr_1 [5] [10, 11, 12, 13] σ τ ∧ rd_R (if pa_w 1111 (S x.1) = true then pa_cd S nv nm n (x.1 + 1) (pa_ad B x.2.1 x.2.2) else .inr (x.1, pa_ad B x.2.1 x.2.2)) (fun x τ => rd_A τ S m nv nm x.1 ∧ cq_At τ x.2 ∧ am_A τ 1 12 = upd (am_A σ 1 12) c (nI A.1) ∧ am_A τ 1 13 = upd (am_A σ 1 13) c (nI x.2.1)) r τ) _ _ _ _
          have e12' : am_A ω 1 12 = upd (am_A σ 1 12) c (nI A.1) := (F2.2.1 12 rfl).trans e12
          have e13' : am_A ω 1 13 = am_A σ 1 13 := (F2.2.1 13 rfl).trans e13
          refine kb_4_readCondition_61 (kf := fun z => absurd z (by decide)) (kt := fun _ => ?_)
          refine kb_4_readCondition_66 (hC := sp_4_takeWord (w := 1111) hR2.1 hR2.2.1 (by decide)) (k := fun r ψ hr => ?_)
          obtain ⟨rfl, w1, w2⟩ := hr
          cases hw : pa_w 1111 (S x.1) with
          | true =>
            obtain ⟨F3, hR3⟩ := w2 hw
            rw [if_pos rfl]
            refine kb_4_readCondition_73 (kf := fun z => absurd z (by decide)) (kt := fun _ => kb_4_readCondition_79 (k := ?_))
            rw [nI_1]
            exact ih (t + 1) _ _ ψ (by omega) hR3 (hB2.on F3.1) (by show B.1 + 1 + n ≤ 144; omega) (F12.tr F3.1.f1) ((F3.1.2.1 1 12 (by decide)).trans e12') ((F3.1.2.1 1 13 (by decide)).trans e13')
          | false =>
            have := w1 hw
            subst this
            refine kb_4_readCondition_73 (kt := fun z => absurd rfl z) (kf := fun _ => kb_4_readCondition_76 (k := kb_4_readCondition_85 (hi0 := vi) (hq := ?_)))
            rw [nI_clamp (show c < 2 ^ 31 by omega), hB2.1]
            have O1 : am_On 1 ψ (am_sA ψ 1 13 (upd (am_A ψ 1 13) c (nI (pa_ad B x.2.1 x.2.2).1))) := am_On.rf.sA _ _
            refine ⟨F12.sA (by rfl) _, rfl, hR2.o1 O1, hB2.cg rfl (by rw [am_A_sA, if_neg (by simp)]) (by rw [am_A_sA, if_neg (by simp)]), by rw [am_A_sA, if_neg (by simp)]; exact e12', by rw [am_A_sA, if_pos ⟨rfl, rfl⟩, e13']⟩
  refine am_enter rfl (by simp [Value.category]) (Nat.le_of_ble_eq_true rfl) (kb_4_readCondition_0 (hi0 := vi) (k := ?_))
  rw [nI_clamp (show c < 2 ^ 31 by omega), hA.1]
  have O1 : am_On 1 σ (am_sA σ 1 12 (upd (am_A σ 1 12) c (nI A.1))) := am_On.rf.sA _ _
  exact loop 8 0 i A _ rfl (h.o1 O1) (hA.cg rfl (by rw [am_A_sA, if_neg (by simp)]) (by rw [am_A_sA, if_neg (by simp)])) hn (fr_1.rf.sA (by rfl) _) (by rw [am_A_sA, if_pos ⟨rfl, rfl⟩]) (by rw [am_A_sA, if_neg (by simp)])
theorem sp_4_readTest {A : pa_A} {c : Nat} (h : rd_A σ S m nv nm i) (hA : cq_At σ A) (hn : A.1 < 144) (hc : c < 32) : am_C false ya_4_readTest (d + 4) [.ref (am_oid 2), .int (nI c)] σ (fun r τ => fr_1 [5] [10, 11, 12, 13] σ τ ∧ rd_R (pa_am S nv nm i) (fun x τ => rd_A τ S m nv nm x.1 ∧ cq_At τ (pa_ad A x.2.1 x.2.2) ∧ am_A τ 1 12 = upd (am_A σ 1 12) c (nI A.1) ∧ am_A τ 1 13 = upd (am_A σ 1 13) c (nI (A.1 + 1))) r τ) := by
  have vi : vp_in (nI c) 32 := vp_in_nI hc (by decide)
  have cl : (nI c).toNatClampNeg = c := nI_clamp (by omega)
  have O1 : am_On 1 σ (am_sA σ 1 12 (upd (am_A σ 1 12) c (nI A.1))) := am_On.rf.sA _ _
  refine am_enter rfl (by simp [Value.category]) (Nat.le_of_ble_eq_true rfl) ?_
  refine kb_4_readTest_0 (hi0 := vi) (hC := by rw [cl, hA.1]; exact sp_4_readAtom (h.o1 O1) (hA.cg rfl (by rw [am_A_sA, if_neg (by simp)]) (by rw [am_A_sA, if_neg (by simp)])) hn) (k := fun r τ hr => ?_)
  obtain ⟨F, hr⟩ := hr
  have F' : fr_1 [5] [10, 11, 12, 13] σ τ := (fr_1.rf.sA (k := 12) (by rfl) _).tr (F.wid rfl rfl)
  have e12 : am_A τ 1 12 = upd (am_A σ 1 12) c (nI A.1) := (F.2.1 12 rfl).trans (by rw [am_A_sA, if_pos ⟨rfl, rfl⟩])
  have e13 : am_A τ 1 13 = am_A σ 1 13 := (F.2.1 13 rfl).trans (by rw [am_A_sA, if_neg (by simp)])
  cases ex : pa_am S nv nm i with
  | inl e' =>
    rw [ex] at hr
    obtain ⟨rfl, a, b⟩ := hr
    exact kb_4_readTest_20 (hi1 := vi) (hb2 := rfl) (hq := ⟨F'.sA (by rfl) _, rfl, a, b⟩)
  | inr x =>
    rw [ex] at hr
    obtain ⟨rfl, hR2, hB2⟩ := hr
    refine kb_4_readTest_20 (hi1 := vi) (hb2 := rfl) (hq := ?_)
    rw [cl, hB2.1]
    have O2 : am_On 1 τ (am_sA τ 1 13 (upd (am_A τ 1 13) c (nI (pa_ad A x.2.1 x.2.2).1))) := am_On.rf.sA _ _
    exact ⟨F'.sA (by rfl) _, rfl, hR2.o1 O2, hB2.cg rfl (by rw [am_A_sA, if_neg (by simp)]) (by rw [am_A_sA, if_neg (by simp)]), by rw [am_A_sA, if_neg (by simp)]; exact e12, by rw [am_A_sA, if_pos ⟨rfl, rfl⟩, e13]; rfl⟩
theorem sp_4_openLine {a b : Nat} (h : rd_A σ S m nv nm i) (h0 : (S i).1 ≠ 0) (ha : a < 100) (hb : b < 100) : am_C false ya_4_openLine (d + 1) [.ref (am_oid 2), .int (nI a), .int (nI b)] σ (fun r τ => fr_1 [7] [] σ τ ∧ rd_R (if b ≤ a then .inl (2, (S i).2.1) else .inr (i + 1)) (fun j τ => rd_A τ S m nv nm j ∧ am_I τ 1 7 = 1) r τ) := by
  refine am_enter rfl (by simp [Value.category]) (Nat.le_of_ble_eq_true rfl) ?_
  by_cases q : b ≤ a
  · rw [if_pos q]
    refine kb_4_openLine_0 (kt := fun z => absurd z (nI_nlt q (by omega))) (kf := fun _ => ?_)
    refine kb_4_openLine_5 (hC := sp_4_refuse _ _) (k := fun r τ hr => ?_)
    obtain ⟨F, rfl, a1, b1⟩ := hr
    exact kb_4_openLine_14 (hb0 := rfl) (hq := ⟨F.f1, rfl, a1, by rw [b1]; exact h.2.1.2.2.2.1⟩)
  · rw [if_neg q]
    have O1 : am_On 1 σ (am_sI σ 1 7 1) := am_On.rf.sI _ _
    have h' := h.o1 O1
    refine kb_4_openLine_0 (kf := fun z => absurd (nI_lt (by omega) (by omega)) z) (kt := fun _ => ?_)
    refine kb_4_openLine_15 (hC := sp_4_advance h'.1 h'.2.1 h0) (k := fun r τ hr => ?_)
    obtain ⟨rfl, F, hR⟩ := hr
    exact kb_4_openLine_27 ⟨(fr_1.rf.sI (by rfl) _).tr F.1.f1, rfl, hR, (F.1.1 1 7 (by decide)).trans (by rw [am_I_sI, if_pos ⟨rfl, rfl⟩])⟩
end ATOMS
