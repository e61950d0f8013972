/-! the class's plan cleared, a variable more; the class reads var -/
def cq_P (σ : am_St) (q : pa_Q) : Prop := (am_I σ 1 0 = nI (pP_nv (pQ_p q)) ∧ am_I σ 1 1 = nI (pP_ns (pQ_p q)) ∧ am_I σ 1 2 = nI (pP_nb (pQ_p q)) ∧ am_I σ 1 3 = nI (pP_K (pQ_p q)) ∧ am_I σ 1 4 = nI (pP_T (pQ_p q)) ∧ am_I σ 1 6 = nI (pQ_N q) ∧ am_I σ 1 7 = am_bI (pQ_ho q)) ∧ cq_At σ (pQ_A q) ∧ (∀ v, v < pP_nv (pQ_p q) → am_A σ 1 8 v = iI (pP_lo (pQ_p q) v) ∧ am_A σ 1 9 v = iI (pP_lo (pQ_p q) v + pP_wd (pQ_p q) v - 1)) ∧ (∀ c, c < 32 → am_A σ 1 12 c = nI (pP_cf (pQ_p q) c) ∧ am_A σ 1 13 c = nI (pP_cf (pQ_p q) c + pP_cn (pQ_p q) c)) ∧ ∀ x, x < 24 → am_A σ 1 15 x = am_bI (pP_g (pQ_p q) x) ∧ (pP_g (pQ_p q) x = true → ∀ j, j < 4 → am_A σ 1 14 (4 * x + j) = pP_sf (pQ_p q) x j)
/-- what holds of all that was told -/
def pq_ok (q : pa_Q) : Prop := pP_ok (pQ_p q) (pQ_N q) ∧ pQ_na q ≤ 8 * (pP_ns (pQ_p q) + pP_nb (pQ_p q) + pP_K (pQ_p q)) + pP_T (pQ_p q) ∧ (∀ c, c < 32 → pP_cf (pQ_p q) c + pP_cn (pQ_p q) c ≤ pQ_na q) ∧ (∀ a, a < pQ_na q → pP_sg (pQ_p q) a = 60 ∨ pP_sg (pQ_p q) a = 61 ∨ pP_sg (pQ_p q) a = 62) ∧ (∀ t, t < pP_T (pQ_p q) → pP_cn (pQ_p q) (16 + t) = 1) ∧ (∀ k, pP_K (pQ_p q) ≤ k → k < 8 → pP_cn (pQ_p q) (8 + k) = 0 ∧ ∀ v, v < 3 → pP_g (pQ_p q) (3 * k + v) = false) ∧ ∀ v, v < pP_nv (pQ_p q) → pQ_nm q v < 387420489 ∧ pa_lg (pQ_nm q v) = false
section CVAR
variable {d m i : Nat} {S : Nat → tk_T} {q : pa_Q} {σ : am_St}
theorem cq_P.cg {τ : am_St} (h : cq_P σ q) (hI : ∀ k, am_I τ 1 k = am_I σ 1 k) (hA : ∀ k, am_A τ 1 k = am_A σ 1 k) : cq_P τ q := by
  obtain ⟨⟨a0, a1, a2, a3, a4, a6, a7⟩, b, c, e, f⟩ := h
  exact ⟨⟨(hI 0).trans a0, (hI 1).trans a1, (hI 2).trans a2, (hI 3).trans a3, (hI 4).trans a4, (hI 6).trans a6, (hI 7).trans a7⟩, b.cg (hI 5) (hA 10) (hA 11), by rw [hA, hA]; exact c, by rw [hA, hA]; exact e, by rw [hA, hA]; exact f⟩
theorem cq_P.on {τ : am_St} (h : cq_P σ q) (F : am_On 2 σ τ) : cq_P τ q := h.cg (fun k => F.1 1 k (by decide)) (fun k => F.2.1 1 k (by decide))
theorem sp_2_clear : am_C false ya_2_clear (d + 1) [.ref (am_oid 1)] σ (fun r τ => r = none ∧ am_On 1 σ τ ∧ cq_P τ pa_0) := by
  have loop : ∀ (j x : Nat) (τ : am_St), x + j = 24 → am_On 1 σ τ → (am_I τ 1 0 = 0 ∧ am_I τ 1 1 = 0 ∧ am_I τ 1 2 = 0 ∧ am_I τ 1 3 = 0 ∧ am_I τ 1 4 = 0 ∧ am_I τ 1 6 = 1 ∧ am_I τ 1 7 = 0) → am_I τ 1 5 = 0 → (∀ c, c < 32 → am_A τ 1 12 c = 0 ∧ am_A τ 1 13 c = 0) → (∀ y, y < x → am_A τ 1 15 y = 0) → am_T false ya_2_clear (d + 1) (fun r τ => r = none ∧ am_On 1 σ τ ∧ cq_P τ pa_0) 58 [some (.ref (am_oid 1)), some (.int (nI x))] [] τ := by
    intro j
    induction j with
    | zero =>
      intro x τ hx F a1 a2 a3 a4
      have : x = 24 := by omega
      subst this
      refine kb_2_clear_58 (kf := fun z => absurd (show (24 : Int32) ≤ nI 24 by decide) z) (kt := fun _ => kb_2_clear_80 ⟨rfl, F, a1, ⟨a2, fun a ha => absurd ha (Nat.not_lt_zero a)⟩, fun v hv => absurd hv (Nat.not_lt_zero v), a3, fun y hy => ⟨a4 y hy, fun z => absurd (show false = true from z) (by decide)⟩⟩)
    | succ j ih =>
      intro x τ hx F a1 a2 a3 a4
      refine kb_2_clear_58 (kt := fun z => absurd z (by rw [show (24 : Int32) = nI 24 from rfl]; exact nI_ge (by omega) (by omega))) (kf := fun _ => ?_)
      refine kb_2_clear_67 (hi0 := vp_in_nI (by omega) (by decide)) (k := ?_)
      rw [nI_1, nI_clamp (show x < 2 ^ 31 by omega), show vp_nar .boolean 0 = 0 from by decide]
      refine ih (x + 1) _ (by omega) (F.sA _ _) a1 a2 (fun c hc => ?_) (fun y hy => ?_)
      · rw [am_A_sA, if_neg (by simp), am_A_sA, if_neg (by simp)]; exact a3 c hc
      · rw [am_A_sA, if_pos ⟨rfl, rfl⟩]
        by_cases q : y = x
        · rw [q, upd_s]
        · rw [upd_n q]; exact a4 y (by omega)
  refine am_enter rfl (by simp [Value.category]) (Nat.le_of_ble_eq_true rfl) ?_
  refine kb_2_clear_0 (hC := sp_fill false d 1 12 2 32 0 _ rfl (by decide) rfl (by decide)) (k := fun r τ0 hr => ?_)
  obtain ⟨rfl, h0⟩ := hr
  refine kb_2_clear_48 (hC := sp_fill false d 1 13 2 32 0 _ rfl (by decide) rfl (by decide)) (k := fun r τ1 hr => ?_)
  obtain ⟨rfl, h1⟩ := hr
  refine kb_2_clear_56 (k := loop 24 0 τ1 rfl ?_ ?_ ?_ (fun c hc => ?_) (fun y hy => absurd hy (Nat.not_lt_zero y)))
  · rw [h1, h0]; exact (((((((((am_On.rf.sI _ _).sI _ _).sI _ _).sI _ _).sI _ _).sI _ _).sI _ _).sI _ _).sA _ _).sA _ _
  · rw [h1, h0]; simp [am_I_sI, am_I_sA]
  · rw [h1, h0]; simp [am_I_sI, am_I_sA]
  · rw [h1, am_A_sA, if_neg (by simp), am_A_sA, if_pos ⟨rfl, rfl⟩, h0, am_A_sA, if_pos ⟨rfl, rfl⟩]
    unfold am_fill
    rw [if_pos hc, if_pos hc]
    exact ⟨rfl, rfl⟩
theorem sp_4_isOfLanguage {w : Nat} (hw : w < 387420489) : am_C false ya_4_isOfLanguage d [.int (nI w)] σ (fun r τ => τ = σ ∧ r = some (.int (am_bI (pa_lg w)))) := by
  refine am_enter rfl (by simp [Value.category]) (Nat.le_of_ble_eq_true rfl) ?_
  have yes : ∀ x, x < 387420489 → nI w = nI x → pa_lg x = true → am_T false ya_4_isOfLanguage d (fun r τ => τ = σ ∧ r = some (.int (am_bI (pa_lg w)))) 76 [some (.int (nI w))] [] σ := fun x hx z b => by
    have : w = x := nI_inj (by omega) (by omega) z
    rw [this, b]
    exact kb_4_isOfLanguage_76 ⟨rfl, rfl⟩
  refine kb_4_isOfLanguage_0 (k0 := fun z => yes 249 (by decide) z (by decide)) (k1 := fun z => yes 1111 (by decide) z (by decide)) (k2 := fun z => yes 1489 (by decide) z (by decide)) (k3 := fun z => yes 14006 (by decide) z (by decide)) (k4 := fun z => yes 16083 (by decide) z (by decide)) (k5 := fun z => yes 388708 (by decide) z (by decide)) (k6 := fun z => yes 397838 (by decide) z (by decide)) (k7 := fun z => yes 10492274 (by decide) z (by decide)) (kd := fun z => ?_)
  have : pa_lg w = false := by
    unfold pa_lg
    refine decide_eq_false (fun h => ?_)
    obtain ⟨z0, z1, z2, z3, z4, z5, z6, z7⟩ := z
    rcases h with h | h | h | h | h | h | h | h <;> subst h
    · exact z0 rfl
    · exact z1 rfl
    · exact z2 rfl
    · exact z3 rfl
    · exact z4 rfl
    · exact z5 rfl
    · exact z6 rfl
    · exact z7 rfl
  rw [this]
  exact kb_4_isOfLanguage_78 ⟨rfl, rfl⟩
theorem pa_ix_cg {nm nm' : Nat → Nat} {w : Nat} : ∀ {k : Nat}, (∀ v, v < k → nm' v = nm v) → pa_ix nm' w k = pa_ix nm w k := by
  intro k
  induction k with
  | zero => intro _; rfl
  | succ k ih =>
    intro h
    unfold pa_ix
    rw [ih (fun v hv => h v (by omega)), h k (by omega)]
theorem pa_v_s {nv : Nat} {nm : Nat → Nat} {w : Nat} (hw : pa_ix nm w nv = none) (x : tk_T) : pa_v (nv + 1) (up1 nm nv w) x = if x.1 = 1 ∧ x.2.2.2 = w then some nv else pa_v nv nm x := by
  have e : pa_ix (up1 nm nv w) x.2.2.2 nv = pa_ix nm x.2.2.2 nv := pa_ix_cg (fun v hv => by unfold up1; rw [if_neg (by omega)])
  have e2 : up1 nm nv w nv = w := by unfold up1; rw [if_pos rfl]
  unfold pa_v
  by_cases k : x.1 = 1
  · rw [if_pos k, if_pos k]
    show (match pa_ix (up1 nm nv w) x.2.2.2 nv with
      | some v => some v
      | none => if up1 nm nv w nv = x.2.2.2 then some nv else none) = _
    rw [e, e2]
    by_cases z : x.2.2.2 = w
    · have c1 : (if x.1 = 1 ∧ x.2.2.2 = w then some nv else pa_ix nm x.2.2.2 nv) = some nv := if_pos ⟨k, z⟩
      rw [c1, z, hw]
      exact if_pos rfl
    · have c1 : (if x.1 = 1 ∧ x.2.2.2 = w then some nv else pa_ix nm x.2.2.2 nv) = pa_ix nm x.2.2.2 nv := if_neg (fun y => z y.2)
      rw [c1]
      cases pa_ix nm x.2.2.2 nv with
      | none => exact if_neg (fun y => z y.symm)
      | some v => rfl
  · rw [if_neg k, if_neg k, if_neg (fun y => k y.1)]
theorem sp_7_nameVariable {nv w : Nat} {nm : Nat → Nat} (hT : rd_T σ S m nv nm) (hn : nv < 3) (hw : w < 387420489) (hx : pa_ix nm w nv = none) : am_C false ya_7_nameVariable d [.ref (am_oid 3), .int (nI w), .int (nI nv)] σ (fun r τ => r = none ∧ am_On 3 σ τ ∧ rd_T τ S m (nv + 1) (up1 nm nv w)) := by
  obtain ⟨h1, h2, h3, h4, h5, h6⟩ := hT
  have loop : ∀ (j t : Nat) (τ : am_St), t + j = m + 1 → am_On 3 σ τ → am_I τ 3 0 = nI (m + 1) → (∀ k, k ≠ 4 → am_A τ 3 k = am_A σ 3 k) → (∀ s, s < t → am_A τ 3 4 s = am_oI (-1) (pa_v (nv + 1) (up1 nm nv w) (S s))) → (∀ s, t ≤ s → s ≤ m → am_A τ 3 4 s = am_oI (-1) (pa_v nv nm (S s))) → am_T false ya_7_nameVariable d (fun r τ => r = none ∧ am_On 3 σ τ ∧ rd_T τ S m (nv + 1) (up1 nm nv w)) 2 [some (.ref (am_oid 3)), some (.int (nI w)), some (.int (nI nv)), some (.int (nI t))] [] τ := by
    intro j
    induction j with
    | zero =>
      intro t τ ht F i0 ek e1 e2
      have : t = m + 1 := by omega
      subst this
      refine kb_7_nameVariable_2 (kf := fun z => absurd (by rw [i0]; exact nI_le (Nat.le_refl _) (by omega)) z) (kt := fun _ => kb_7_nameVariable_43 ⟨rfl, F, h1, i0, h3, h4, fun s hs => ?_, by omega⟩)
      rw [ek 1 (by decide), ek 2 (by decide), ek 3 (by decide)]
      have := h5 s hs
      exact ⟨this.1, this.2.1, this.2.2.1, e1 s (by omega)⟩
    | succ j ih =>
      intro t τ ht F i0 ek e1 e2
      have vi : vp_in (nI t) 901 := vp_in_nI (by omega) (by omega)
      have cl : (nI t).toNatClampNeg = t := nI_clamp (by omega)
      have hb := h4 t (by omega)
      have hr := h5 t (by omega)
      have k1 : (am_A τ 3 1 (nI t).toNatClampNeg = 1) = ((S t).1 = 1) := by
        rw [cl, ek 1 (by decide), hr.1]
        exact propext ⟨fun z => nI_inj (by omega) (by decide) (show _ = nI 1 from z), fun z => by rw [z]; rfl⟩
      have k3 : (am_A τ 3 3 (nI t).toNatClampNeg = nI w) = ((S t).2.2.2 = w) := by
        rw [cl, ek 3 (by decide), hr.2.2.1]
        exact propext ⟨fun z => nI_inj (by omega) (by omega) z, fun z => by rw [z]⟩
      have skip : ¬ ((S t).1 = 1 ∧ (S t).2.2.2 = w) → am_T false ya_7_nameVariable d (fun r τ => r = none ∧ am_On 3 σ τ ∧ rd_T τ S m (nv + 1) (up1 nm nv w)) 37 [some (.ref (am_oid 3)), some (.int (nI w)), some (.int (nI nv)), some (.int (nI t))] [] τ := fun hne => by
        refine kb_7_nameVariable_37 (k := ?_)
        rw [nI_1]
        refine ih (t + 1) τ (by omega) F i0 ek (fun s hs => ?_) (fun s a b => e2 s (by omega) b)
        by_cases q : s = t
        · rw [q, pa_v_s hx, if_neg hne]; exact e2 t (Nat.le_refl _) (by omega)
        · exact e1 s (by omega)
      refine kb_7_nameVariable_2 (kt := fun z => absurd z (by rw [i0]; exact nI_ge (by omega) (by omega))) (kf := fun _ => ?_)
      by_cases q1 : (S t).1 = 1
      · refine kb_7_nameVariable_10 (hi0 := vi) (kt := fun z => absurd (k1.mpr q1) z) (kf := fun _ => ?_)
        by_cases q2 : (S t).2.2.2 = w
        · refine kb_7_nameVariable_20 (hi0 := vi) (kt := fun z => absurd (k3.mpr q2) z) (kf := fun _ => ?_)
          refine kb_7_nameVariable_30 (hi0 := vi) (k := kb_7_nameVariable_37 (k := ?_))
          rw [nI_1, cl]
          refine ih (t + 1) _ (by omega) (F.sA _ _) i0 (fun k hk => by rw [am_A_sA, if_neg (fun z => hk z.1)]; exact ek k hk) (fun s hs => ?_) (fun s a b => ?_)
          · rw [am_A_sA, if_pos ⟨rfl, rfl⟩]
            by_cases q : s = t
            · rw [q, upd_s, pa_v_s hx, if_pos ⟨q1, q2⟩]; rfl
            · rw [upd_n q]; exact e1 s (by omega)
          · rw [am_A_sA, if_pos ⟨rfl, rfl⟩, upd_n (by omega)]; exact e2 s (by omega) b
        · exact kb_7_nameVariable_20 (hi0 := vi) (kf := fun z => absurd (k3.mp z) q2) (kt := fun _ => skip (fun y => q2 y.2))
      · exact kb_7_nameVariable_10 (hi0 := vi) (kf := fun z => absurd (k1.mp z) q1) (kt := fun _ => skip (fun y => q1 y.1))
  refine am_enter rfl (by simp [Value.category]) (Nat.le_of_ble_eq_true rfl) (kb_7_nameVariable_0 (k := ?_))
  have := loop (m + 1) 0 σ (by omega) am_On.rf h2 (fun _ _ => rfl) (fun s hs => absurd hs (Nat.not_lt_zero s)) (fun s _ b => (h5 s b).2.2.2)
  rw [nI_0] at this
  exact this
theorem sp_4_readSigned {nv : Nat} {nm : Nat → Nat} {low : Int} (h : rd_A σ S m nv nm i) (hl : -20 ≤ low ∧ low ≤ 20) : am_C false ya_4_readSigned (d + 1) [.ref (am_oid 2), .int (iI low)] σ (fun r τ => am_On 2 σ τ ∧ rd_R (pa_sn S low i) (fun x τ => rd_A τ S m nv nm x.1 ∧ am_I τ 2 7 = iI x.2 ∧ am_I τ 2 8 = nI (S i).2.1) r τ) := by
  have tail : ∀ (b : Bool) (k : Nat) (τ : am_St) (res : pa_F ⊕ (Nat × Int)), rd_A τ S m nv nm k → am_I τ 2 8 = nI (S i).2.1 → am_On 2 σ τ → (¬ (S k).1 = 2 → res = .inl (1, (S k).2.1)) → (∀ x : Int, x = (if b = true then -((S k).2.2.2 : Int) else ((S k).2.2.2 : Int)) → (S k).1 = 2 → res = if x < low ∨ 20 < x then .inl (2, (S i).2.1) else .inr (k + 1, x)) → am_T false ya_4_readSigned (d + 1) (fun r τ => am_On 2 σ τ ∧ rd_R res (fun x τ => rd_A τ S m nv nm x.1 ∧ am_I τ 2 7 = iI x.2 ∧ am_I τ 2 8 = nI (S i).2.1) r τ) 31 [some (.ref (am_oid 2)), some (.int (iI low)), some (.int (am_bI b))] [] τ := by
    intro b k τ res hR h8 F r1 r2
    have k2 := hR.k0 (x := 2) (by decide)
    by_cases q : (S k).1 = 2
    · obtain ⟨x, hx⟩ : ∃ x : Int, x = (if b = true then -((S k).2.2.2 : Int) else ((S k).2.2.2 : Int)) := ⟨_, rfl⟩
      rw [r2 x hx q]
      have hb := (hR.1.2.2.2.1 k hR.2.1.1).2.2
      have xb : -387420489 < x ∧ x < 387420489 := by rw [hx]; split <;> omega
      have lx : (iI x < iI low) = (x < low) := iI_lt (by omega) (by omega) (by omega) (by omega)
      have lx2 : (iI x ≤ 20) = (x ≤ 20) := by rw [show (20 : Int32) = iI 20 from by decide]; exact iI_le (by omega) (by omega) (by omega) (by omega)
      have go : am_T false ya_4_readSigned (d + 1) (fun r τ => am_On 2 σ τ ∧ rd_R (if x < low ∨ 20 < x then .inl (2, (S i).2.1) else .inr (k + 1, x)) (fun x τ => rd_A τ S m nv nm x.1 ∧ am_I τ 2 7 = iI x.2 ∧ am_I τ 2 8 = nI (S i).2.1) r τ) 66 [some (.ref (am_oid 2)), some (.int (iI low)), some (.int (am_bI b))] [.int (iI x), .ref (am_oid 2)] τ := by
        have F7 : am_On 2 τ (am_sI τ 2 7 (iI x)) := am_On.rf.sI _ _
        have e7 : am_I (am_sI τ 2 7 (iI x)) 2 7 = iI x := by rw [am_I_sI, if_pos ⟨rfl, rfl⟩]
        have e8 : am_I (am_sI τ 2 7 (iI x)) 2 8 = nI (S i).2.1 := by rw [am_I_sI, if_neg (by simp)]; exact h8
        have refu : (x < low ∨ 20 < x) → am_T false ya_4_readSigned (d + 1) (fun r τ => am_On 2 σ τ ∧ rd_R (if x < low ∨ 20 < x then .inl (2, (S i).2.1) else .inr (k + 1, x)) (fun x τ => rd_A τ S m nv nm x.1 ∧ am_I τ 2 7 = iI x.2 ∧ am_I τ 2 8 = nI (S i).2.1) r τ) 86 [some (.ref (am_oid 2)), some (.int (iI low)), some (.int (am_bI b))] [] (am_sI τ 2 7 (iI x)) := fun z => by
          rw [if_pos z]
          refine kb_4_readSigned_86 (hC := sp_4_refuse _ _) (k := fun r υ hr => ?_)
          obtain ⟨F2, rfl, a, c⟩ := hr
          exact kb_4_readSigned_95 (hb0 := rfl) (hq := ⟨(F.tr F7).tr F2, rfl, a, by rw [c]; exact e8⟩)
        refine kb_4_readSigned_66 (kt := fun z => refu (Or.inl (lx.mp z))) (kf := fun z1 => ?_)
        refine kb_4_readSigned_77 (kf := fun z => refu (Or.inr (by rw [e7, lx2] at z; omega))) (kt := fun z2 => ?_)
        rw [lx] at z1
        rw [e7, lx2] at z2
        rw [if_neg (by omega)]
        have hK7 : rd_K (am_sI τ 2 7 (iI x)) S m k := by
          obtain ⟨c1, c2, c3, c4, c5, c6, c7⟩ := hR.2.1
          exact ⟨c1, by rw [am_I_sI, if_neg (by simp)]; exact c2, by rw [am_I_sI, if_neg (by simp)]; exact c3, by rw [am_I_sI, if_neg (by simp)]; exact c4, by rw [am_I_sI, if_neg (by simp)]; exact c5, by rw [am_I_sI, if_neg (by simp)]; exact c6, by rw [am_I_sI, if_neg (by simp)]; exact c7⟩
        refine kb_4_readSigned_96 (hC := sp_4_advance (hR.1.on F7) hK7 (by omega)) (k := fun r υ hr => ?_)
        obtain ⟨rfl, F2, hR2⟩ := hr
        exact kb_4_readSigned_100 ⟨(F.tr F7).tr F2.1, rfl, hR2, F2.2.2.1.trans e7, F2.2.2.2.trans e8⟩
      refine kb_4_readSigned_31 (kf := fun z => absurd (k2.mpr q) z) (kt := fun _ => ?_)
      cases b with
      | true =>
        have e : -(am_I τ 2 5) = iI x := by rw [hR.2.1.2.2.2.2.1, hx, ← iI_n, iI_neg]; rfl
        refine kb_4_readSigned_49 (kt := fun z => absurd z (by decide)) (kf := fun _ => kb_4_readSigned_54 (k := ?_))
        rw [e]; exact go
      | false =>
        have e : am_I τ 2 5 = iI x := by rw [hR.2.1.2.2.2.2.1, hx, ← iI_n]; rfl
        refine kb_4_readSigned_49 (kf := fun z => absurd rfl z) (kt := fun _ => kb_4_readSigned_62 (k := ?_))
        rw [e]; exact go
    · rw [r1 q]
      refine kb_4_readSigned_31 (kt := fun z => absurd (k2.mp z) q) (kf := fun _ => ?_)
      refine kb_4_readSigned_39 (hC := sp_4_refuse _ _) (k := fun r υ hr => ?_)
      obtain ⟨F2, rfl, a, c⟩ := hr
      exact kb_4_readSigned_48 (hb0 := rfl) (hq := ⟨F.tr F2, rfl, a, by rw [c]; exact hR.2.1.2.2.2.1⟩)
  refine am_enter rfl (by simp [Value.category]) (Nat.le_of_ble_eq_true rfl) ?_
  have F8 : am_On 2 σ (am_sI σ 2 8 (am_I σ 2 4)) := am_On.rf.sI _ _
  have e8 : am_I (am_sI σ 2 8 (am_I σ 2 4)) 2 8 = nI (S i).2.1 := by rw [am_I_sI, if_pos ⟨rfl, rfl⟩]; exact h.2.1.2.2.2.1
  have h8 : rd_A (am_sI σ 2 8 (am_I σ 2 4)) S m nv nm i := by
    obtain ⟨c1, c2, c3, c4, c5, c6, c7⟩ := h.2.1
    exact ⟨h.1.on F8, ⟨c1, by rw [am_I_sI, if_neg (by simp)]; exact c2, by rw [am_I_sI, if_neg (by simp)]; exact c3, by rw [am_I_sI, if_neg (by simp)]; exact c4, by rw [am_I_sI, if_neg (by simp)]; exact c5, by rw [am_I_sI, if_neg (by simp)]; exact c6, by rw [am_I_sI, if_neg (by simp)]; exact c7⟩, by rw [am_I_sI, if_neg (by simp)]; exact h.2.2⟩
  have k45 := h.k0 (x := 45) (by decide)
  by_cases q : (S i).1 = 45
  · refine kb_4_readSigned_0 (kt := fun z => absurd (k45.mpr q) z) (kf := fun _ => kb_4_readSigned_17 (k := kb_4_readSigned_22 (kt := fun z => absurd z (by decide)) (kf := fun _ => ?_)))
    refine kb_4_readSigned_27 (hC := sp_4_advance h8.1 h8.2.1 (by omega)) (k := fun r υ hr => ?_)
    obtain ⟨rfl, F2, hR2⟩ := hr
    refine tail true (i + 1) υ _ hR2 (F2.2.2.2.trans e8) (F8.tr F2.1) (fun z => ?_) (fun x hx z => ?_)
    · unfold pa_sn; rw [if_pos q, if_neg z]
    · rw [if_pos rfl] at hx
      rw [hx]
      unfold pa_sn; rw [if_pos q, if_pos z]
  · refine kb_4_readSigned_0 (kf := fun z => absurd (k45.mp z) q) (kt := fun _ => kb_4_readSigned_21 (k := kb_4_readSigned_22 (kf := fun z => absurd rfl z) (kt := fun _ => ?_)))
    refine tail false i _ _ h8 e8 F8 (fun z => ?_) (fun x hx z => ?_)
    · unfold pa_sn; rw [if_neg q, if_neg z]
    · rw [if_neg (by decide)] at hx
      rw [hx]
      unfold pa_sn; rw [if_neg q, if_pos z]
end CVAR
