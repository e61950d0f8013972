/-! the reference reads its lines: start, bad, step, test -/
abbrev mo_LX := mo_Fm [7, 8, 9, 10, 11, 12, 13, 16] [4, 5]
/-- the reference's row is what was told; l lines -/
def rq_P (σ : am_St) (q : pa_Q) (l : Nat) : Prop := rq_W (am_A σ 16 4) q ∧ ra_At σ (pQ_A q) ∧ rr_N σ (pP_nv (pQ_p q)) (pQ_nm q) ∧ am_I σ 16 16 = am_bI (pQ_ho q) ∧ (pP_K (pQ_p q) ≠ 0 → pQ_ho q = true) ∧ am_A σ 16 4 6 = nI l
/-- the same, in a line behind which var may not stand -/
def rq_B (σ : am_St) (q : pa_Q) (l : Nat) : Prop := rq_W (am_A σ 16 4) q ∧ ra_At σ (pQ_A q) ∧ rr_N σ (pP_nv (pQ_p q)) (pQ_nm q) ∧ am_I σ 16 16 = 1 ∧ (pP_K (pQ_p q) ≠ 0 → pQ_ho q = true) ∧ am_A σ 16 4 6 = nI l
section MLINES
variable {d n i l : Nat} {tc : Nat → Nat} {q : pa_Q} {σ : am_St}
theorem mo_Fm.xl {τ : am_St} (h : mo_XF σ τ) : mo_LX σ τ := h.wid rfl rfl
theorem mo_Fm.kl {τ : am_St} (h : mo_KF σ τ) : mo_LX σ τ := h.wid rfl rfl
abbrev rl_R (res : pa_F ⊕ (Nat × pa_Q)) (tc : Nat → Nat) (n l : Nat) (τ : am_St) : Prop := rr_R res (fun x τ => rr_K τ tc n x.1 ∧ rq_P τ x.2 l) τ
theorem rr_f {X : Type} {ok : X → am_St → Prop} {e : pa_F} {τ : am_St} (he : pa_E e) (h : rr_R (.inl e) ok τ) : ¬ am_I τ 16 12 = 0 := by
  rw [h.1]; exact nI_ne0 he.1 (Nat.lt_of_le_of_lt he.2 (by decide))
/-- a condition of a start or of a bad: wh where they are counted, to where they lie -/
theorem sp_11_readCase {wh to cnt : Nat} (h : rr_K σ tc n i) (hB : rq_B σ q l) (hk : pq_ok q) (hw : (wh = 1 ∧ to = 14) ∨ (wh = 2 ∧ to = 22)) (hc : am_A σ 16 4 wh = nI cnt) (hc4 : cnt ≤ 4) (hna : cnt < 4 → pQ_na q + 8 ≤ 144) : am_C true ya_11_readCase (d + 11) [.ref (am_oid 16), .int (nI wh), .int (nI to), .int 4] σ (fun r τ => r = none ∧ mo_XF σ τ ∧ rr_R (if 4 ≤ cnt then .inl (2, (tk_s tc n i).2.1) else pa_cd (tk_s tc n) (pP_nv (pQ_p q)) (pQ_nm q) 8 (i + 1) (pQ_A q)) (fun x τ => rr_K τ tc n x.1 ∧ ra_At τ x.2 ∧ am_A τ 16 4 wh = nI (cnt + 1) ∧ am_A τ 16 4 (to + 2 * cnt) = nI (pQ_na q) ∧ am_A τ 16 4 (to + 2 * cnt + 1) = nI (x.2.1 - pQ_na q) ∧ ∀ k, k < 182 → k ≠ wh → k ≠ 5 → k ≠ to + 2 * cnt → k ≠ to + 2 * cnt + 1 → am_A τ 16 4 k = am_A σ 16 4 k) τ) := by
  obtain ⟨b1, b2, b3, b4, b5, b6⟩ := hB
  have vw : vp_in (nI wh) 1300 := vp_in_nI (by omega) (by decide)
  have cw : (nI wh).toNatClampNeg = wh := nI_clamp (by omega)
  refine am_enter rfl (by simp [Value.category]) (Nat.le_of_ble_eq_true rfl) ?_
  by_cases c4 : 4 ≤ cnt
  · have e4 : cnt = 4 := by omega
    rw [if_pos c4]
    refine kb_11_readCase_0 (hi0 := vw) (kt := fun z => absurd (by rw [cw, hc, e4]; rfl) z) (kf := fun _ => ?_)
    refine kb_11_readCase_10 (hC := sp_11_wrong_0 h.2.2 2) (k := fun r υ hr => ?_)
    obtain ⟨rfl, hυ⟩ := hr
    rw [h.2.1.2.1] at hυ
    obtain ⟨w1, w2, w3, w4⟩ := rr_w (σ := σ) (X := Nat × pa_A) (ok := fun x τ => rr_K τ tc n x.1 ∧ ra_At τ x.2 ∧ am_A τ 16 4 wh = nI (cnt + 1) ∧ am_A τ 16 4 (to + 2 * cnt) = nI (pQ_na q) ∧ am_A τ 16 4 (to + 2 * cnt + 1) = nI (x.2.1 - pQ_na q) ∧ ∀ k, k < 182 → k ≠ wh → k ≠ 5 → k ≠ to + 2 * cnt → k ≠ to + 2 * cnt + 1 → am_A τ 16 4 k = am_A σ 16 4 k) (k := 2) (w := (tk_s tc n i).2.1) (Or.inr (Or.inl rfl))
    have hυ' : υ = am_sI (am_sI σ 16 12 (nI 2)) 16 13 (nI (tk_s tc n i).2.1) := hυ
    rw [← hυ'] at w1 w2 w3 w4
    refine kb_11_readCase_15 (hC := sp_11_goOn_f w4) (k := fun r υ2 hr => ?_)
    obtain ⟨rfl, rfl⟩ := hr
    refine kb_11_readCase_19 (hC := sp_11_readCondition_f w4) (k := fun r υ3 hr => ?_)
    obtain ⟨rfl, rfl⟩ := hr
    exact kb_11_readCase_31 (kt := fun z => absurd z w4) (kf := fun _ => kb_11_readCase_40 ⟨rfl, w2, w1⟩)
  · rw [if_neg c4]
    refine kb_11_readCase_0 (hi0 := vw) (kf := fun z => absurd (nI_inj (by omega) (by decide) (show nI cnt = nI 4 by rw [cw, hc] at z; exact z)) (by omega)) (kt := fun _ => ?_)
    refine kb_11_readCase_15 (hC := sp_11_goOn_0 (d := d + 4) h) (k := fun r τ1 hr => ?_)
    obtain ⟨rfl, F1, K1⟩ := hr
    have A1 : ra_At τ1 (pQ_A q) := ⟨by rw [F1.a4]; exact b2.1, by rw [F1.a4]; exact b2.2⟩
    refine kb_11_readCase_19 (hC := sp_11_readCondition_0 (d := d) K1 (b3.kf F1) A1 (hna (by omega))) (k := fun r τ2 hr => ?_)
    obtain ⟨⟨v, rfl⟩, F2, o2, hr⟩ := hr
    have F12 := F1.kr.tr F2
    have e5 : am_A τ1 16 4 5 = nI (pQ_na q) := A1.1
    rw [e5]
    cases ex : pa_cd (tk_s tc n) (pP_nv (pQ_p q)) (pQ_nm q) 8 (i + 1) (pQ_A q) with
    | inl e =>
      rw [ex] at hr
      exact kb_11_readCase_31 (kt := fun z => absurd z (rr_f (pa_cd_e 8 ex) hr)) (kf := fun _ => kb_11_readCase_40 ⟨rfl, F12, hr⟩)
    | inr x =>
      rw [ex] at hr
      obtain ⟨K2, A2, hv⟩ := hr
      cases hv
      have ow : am_A τ2 16 4 wh = nI cnt := by rw [o2 wh (by omega) (by omega), F1.a4]; exact hc
      have e1 : nI to + 2 * nI cnt = nI (to + 2 * cnt) := by rw [show (2 : Int32) = nI 2 from rfl, nI_mul, nI_add]
      have v1 : vp_in (nI (to + 2 * cnt)) 1300 := vp_in_nI (by omega) (by decide)
      have v2 : vp_in (nI (to + 2 * cnt + 1)) 1300 := vp_in_nI (by omega) (by decide)
      have c1 : (nI (to + 2 * cnt)).toNatClampNeg = to + 2 * cnt := nI_clamp (by omega)
      have c2 : (nI (to + 2 * cnt + 1)).toNatClampNeg = to + 2 * cnt + 1 := nI_clamp (by omega)
      have u1 : upd (am_A τ2 16 4) (to + 2 * cnt) (nI (pQ_na q)) wh = nI cnt := by rw [upd_n (by omega)]; exact ow
      have u2 : upd (upd (am_A τ2 16 4) (to + 2 * cnt) (nI (pQ_na q))) (to + 2 * cnt + 1) (nI (x.2.1 - (pQ_A q).1)) wh = nI cnt := by rw [upd_n (by omega)]; exact u1
      refine kb_11_readCase_31 (kf := fun z => absurd K2.2.2 z) (kt := fun _ => kb_11_readCase_41 (hi0 := vw) (hi1 := by rw [cw, ow, e1]; exact v1) (hi2 := vw) (hi3 := by rw [cw, ow, e1, c1, u1, e1, nI_1]; exact v2) (hi4 := vw) (hi5 := vw) (hq := ?_))
      rw [cw, ow, e1, c1, u1, e1, nI_1, c2, u2, nI_1, am_sA_sA, am_sA_sA]
      obtain ⟨W', hW'⟩ : ∃ W', W' = upd (upd (upd (am_A τ2 16 4) (to + 2 * cnt) (nI (pQ_na q))) (to + 2 * cnt + 1) (nI (x.2.1 - (pQ_A q).1))) wh (nI (cnt + 1)) := ⟨_, rfl⟩
      rw [← hW']
      have AW : am_A (am_sA τ2 16 4 W') 16 4 = W' := by rw [am_A_sA, if_pos ⟨rfl, rfl⟩]
      have Wo : ∀ k, k ≠ wh → k ≠ to + 2 * cnt → k ≠ to + 2 * cnt + 1 → W' k = am_A τ2 16 4 k := fun k a b c => by rw [hW', upd_n a, upd_n c, upd_n b]
      refine ⟨rfl, F12.sA (by rfl) _, K2.sA, ⟨?_, fun a ha => ?_⟩, ?_, ?_, ?_, fun k k1 k2 k3 k4 k5 => ?_⟩
      · rw [AW, Wo 5 (by omega) (by omega) (by omega)]; exact A2.1
      · rw [AW, Wo _ (by omega) (by omega) (by omega)]
        refine ⟨(A2.2 a ha).1, fun j hj => ?_⟩
        rw [Wo _ (by omega) (by omega) (by omega)]; exact (A2.2 a ha).2 j hj
      · rw [AW, hW', upd_s]
      · rw [AW, hW', upd_n (by omega), upd_n (by omega), upd_s]
      · rw [AW, hW', upd_n (by omega), upd_s]
      · rw [AW, Wo k k2 k4 k5, o2 k (by omega) k3, F1.a4]
theorem rq_B.N {τ : am_St} (h : rq_B σ q l) (F : mo_XF σ τ) (o : am_A τ 16 4 0 = am_A σ 16 4 0) : rr_N τ (pP_nv (pQ_p q)) (pQ_nm q) := h.2.2.1.cg o (F.2 5 rfl)
theorem rl_start (h : rr_K σ tc n i) (hB : rq_B σ q l) (hk : pq_ok q) : am_C true ya_11_readCase (d + 11) [.ref (am_oid 16), .int 1, .int 14, .int 4] σ (fun r τ => r = none ∧ mo_XF σ τ ∧ rl_R (pl_start (tk_s tc n) q i) tc n l τ) := by
  have h4 := hk.1.2.1
  have hna := hk.2.1
  have hk' := hk
  obtain ⟨⟨c1, n1, n2, n3, n4⟩, -⟩ := hk'
  refine (sp_11_readCase (wh := 1) (to := 14) (cnt := pP_ns (pQ_p q)) h hB hk (Or.inl ⟨rfl, rfl⟩) hB.1.1.2.1 h4 (fun _ => by omega)).mono (fun r τ hr => ?_)
  obtain ⟨rfl, F, hr⟩ := hr
  refine ⟨rfl, F, ?_⟩
  unfold pl_start
  by_cases z : 4 ≤ pP_ns (pQ_p q)
  · rw [if_pos z] at hr ⊢; exact hr
  · rw [if_neg z] at hr ⊢
    unfold pl_con
    cases ex : pa_cd (tk_s tc n) (pP_nv (pQ_p q)) (pQ_nm q) 8 (i + 1) (pQ_A q) with
    | inl e => rw [ex] at hr; exact hr
    | inr x =>
      rw [ex] at hr
      obtain ⟨K2, A2, w1, w2, w3, o⟩ := hr
      obtain ⟨g1, g2, g3, g4⟩ := pa_cd_gt 8 ex pa_le.rf
      exact ⟨K2, hB.1.start hk (by omega) o w1 w2 w3 g4.1, A2, hB.N F (o 0 (by omega) (by omega) (by omega) (by omega) (by omega)), (F.1 16 rfl).trans hB.2.2.2.1, fun _ => rfl, (o 6 (by omega) (by omega) (by omega) (by omega) (by omega)).trans hB.2.2.2.2.2⟩
theorem rl_bad (h : rr_K σ tc n i) (hB : rq_B σ q l) (hk : pq_ok q) : am_C true ya_11_readCase (d + 11) [.ref (am_oid 16), .int 2, .int 22, .int 4] σ (fun r τ => r = none ∧ mo_XF σ τ ∧ rl_R (pl_bad (tk_s tc n) q i) tc n l τ) := by
  have h4 := hk.1.2.2.1
  have hna := hk.2.1
  have hk' := hk
  obtain ⟨⟨c1, n1, n2, n3, n4⟩, -⟩ := hk'
  refine (sp_11_readCase (wh := 2) (to := 22) (cnt := pP_nb (pQ_p q)) h hB hk (Or.inr ⟨rfl, rfl⟩) hB.1.1.2.2.1 h4 (fun _ => by omega)).mono (fun r τ hr => ?_)
  obtain ⟨rfl, F, hr⟩ := hr
  refine ⟨rfl, F, ?_⟩
  unfold pl_bad
  by_cases z : 4 ≤ pP_nb (pQ_p q)
  · rw [if_pos z] at hr ⊢; exact hr
  · rw [if_neg z] at hr ⊢
    unfold pl_con
    cases ex : pa_cd (tk_s tc n) (pP_nv (pQ_p q)) (pQ_nm q) 8 (i + 1) (pQ_A q) with
    | inl e => rw [ex] at hr; exact hr
    | inr x =>
      rw [ex] at hr
      obtain ⟨K2, A2, w1, w2, w3, o⟩ := hr
      obtain ⟨g1, g2, g3, g4⟩ := pa_cd_gt 8 ex pa_le.rf
      exact ⟨K2, hB.1.bad hk (by omega) o w1 w2 w3 g4.1, A2, hB.N F (o 0 (by omega) (by omega) (by omega) (by omega) (by omega)), (F.1 16 rfl).trans hB.2.2.2.1, fun _ => rfl, (o 6 (by omega) (by omega) (by omega) (by omega) (by omega)).trans hB.2.2.2.2.2⟩
theorem rl_test (h : rr_K σ tc n i) (hB : rq_B σ q l) (hk : pq_ok q) : am_C true ya_11_readTest (d + 10) [.ref (am_oid 16)] σ (fun r τ => r = none ∧ mo_XF σ τ ∧ rl_R (pl_test (tk_s tc n) q i) tc n l τ) := by
  have hna := hk.2.1
  have hk' := hk
  obtain ⟨⟨c1, n1, n2, n3, n4⟩, -⟩ := hk'
  have hB' := hB
  obtain ⟨b1, b2, b3, b4, b5, b6⟩ := hB'
  have w4' : am_A σ 16 4 4 = nI (pP_T (pQ_p q)) := b1.1.2.2.2.2
  refine am_enter rfl (by simp [Value.category]) (Nat.le_of_ble_eq_true rfl) ?_
  unfold pl_test
  by_cases z : 16 ≤ pP_T (pQ_p q)
  · have e16 : pP_T (pQ_p q) = 16 := by omega
    rw [if_pos z]
    refine kb_11_readTest_0 (kt := fun y => absurd (by rw [w4', e16]; rfl) y) (kf := fun _ => ?_)
    refine kb_11_readTest_11 (hC := sp_11_wrong_0 h.2.2 2) (k := fun r υ hr => ?_)
    obtain ⟨rfl, hυ⟩ := hr
    rw [h.2.1.2.1] at hυ
    obtain ⟨w1, w2, w3, w4⟩ := rr_w (σ := σ) (X := Nat × pa_Q) (ok := fun x τ => rr_K τ tc n x.1 ∧ rq_P τ x.2 l) (k := 2) (w := (tk_s tc n i).2.1) (Or.inr (Or.inl rfl))
    have hυ' : υ = am_sI (am_sI σ 16 12 (nI 2)) 16 13 (nI (tk_s tc n i).2.1) := hυ
    rw [← hυ'] at w1 w2 w3 w4
    refine kb_11_readTest_16 (hC := sp_11_goOn_f w4) (k := fun r υ2 hr => ?_)
    obtain ⟨rfl, rfl⟩ := hr
    refine kb_11_readTest_20 (hC := sp_11_readAtom_f (d := d + 7) (na := pQ_na q) w4 (by rw [w3 4]; exact b2.1) (by omega)) (k := fun r υ3 hr => ?_)
    obtain ⟨rfl, F2, e12, e13, -⟩ := hr
    exact kb_11_readTest_31 (kt := fun y => absurd (e12.symm.trans y) w4) (kf := fun _ => kb_11_readTest_38 ⟨rfl, w2.tr F2, e12.trans w1.1, e13.trans w1.2⟩)
  · rw [if_neg z]
    refine kb_11_readTest_0 (kf := fun y => absurd (nI_inj (by omega) (by decide) (show nI (pP_T (pQ_p q)) = nI 16 by rw [w4'] at y; exact y)) (by omega)) (kt := fun _ => ?_)
    refine kb_11_readTest_16 (hC := sp_11_goOn_0 (d := d + 3) h) (k := fun r τ1 hr => ?_)
    obtain ⟨rfl, F1, K1⟩ := hr
    have A1 : ra_At τ1 (pQ_A q) := ⟨by rw [F1.a4]; exact b2.1, by rw [F1.a4]; exact b2.2⟩
    refine kb_11_readTest_20 (hC := sp_11_readAtom_0 (d := d) K1 (b3.kf F1) A1 (by show pQ_na q ≤ 144; omega)) (k := fun r τ2 hr => ?_)
    obtain ⟨rfl, F2, o2, hr⟩ := hr
    have F12 := F1.kr.tr F2
    have e5 : am_A τ1 16 4 5 = nI (pQ_na q) := A1.1
    rw [e5]
    cases ex : pa_am (tk_s tc n) (pP_nv (pQ_p q)) (pQ_nm q) (i + 1) with
    | inl e =>
      rw [ex] at hr
      exact kb_11_readTest_31 (kt := fun y => absurd y (rr_f (pa_am_e ex) hr)) (kf := fun _ => kb_11_readTest_38 ⟨rfl, F12, hr⟩)
    | inr x =>
      rw [ex] at hr
      obtain ⟨K2, A2⟩ := hr
      have ow : am_A τ2 16 4 4 = nI (pP_T (pQ_p q)) := by rw [o2 4 (by omega) (by omega), F1.a4]; exact w4'
      have e1 : (166 : Int32) + nI (pP_T (pQ_p q)) = nI (166 + pP_T (pQ_p q)) := by rw [show (166 : Int32) = nI 166 from rfl, nI_add]
      have cl : (nI (166 + pP_T (pQ_p q))).toNatClampNeg = 166 + pP_T (pQ_p q) := nI_clamp (by omega)
      have u1 : upd (am_A τ2 16 4) (166 + pP_T (pQ_p q)) (nI (pQ_na q)) 4 = nI (pP_T (pQ_p q)) := by rw [upd_n (by omega)]; exact ow
      refine kb_11_readTest_31 (kf := fun y => absurd K2.2.2 y) (kt := fun _ => kb_11_readTest_39 (hi0 := by rw [ow, e1]; exact vp_in_nI (by omega) (by decide)) (hq := ?_))
      rw [ow, e1, cl, u1, nI_1, am_sA_sA]
      obtain ⟨W', hW'⟩ : ∃ W', W' = upd (upd (am_A τ2 16 4) (166 + pP_T (pQ_p q)) (nI (pQ_na q))) 4 (nI (pP_T (pQ_p q) + 1)) := ⟨_, rfl⟩
      rw [← hW']
      have AW : am_A (am_sA τ2 16 4 W') 16 4 = W' := by rw [am_A_sA, if_pos ⟨rfl, rfl⟩]
      have Wo : ∀ k, k ≠ 4 → k ≠ 166 + pP_T (pQ_p q) → W' k = am_A τ2 16 4 k := fun k a b => by rw [hW', upd_n a, upd_n b]
      have Ws : ∀ k, k < 182 → k ≠ 4 → k ≠ 5 → k ≠ 166 + pP_T (pQ_p q) → W' k = am_A σ 16 4 k := fun k a b c e => by rw [Wo k b e, o2 k (by omega) c, F1.a4]
      have F3 : mo_XF σ (am_sA τ2 16 4 W') := F12.sA (by rfl) _
      refine ⟨rfl, F3, K2.sA, ?_, ⟨?_, fun a ha => ?_⟩, hB.N F3 (by rw [AW]; exact Ws 0 (by omega) (by omega) (by omega) (by omega)), (F3.1 16 rfl).trans b4, fun _ => rfl, by rw [AW]; exact (Ws 6 (by omega) (by omega) (by omega) (by omega)).trans b6⟩
      · rw [AW]
        exact b1.test hk (by omega) Ws (by rw [hW', upd_s]) (by rw [hW', upd_n (by omega), upd_s]) (Nat.le_succ _)
      · rw [AW, Wo 5 (by omega) (by omega)]; exact A2.1
      · rw [AW, Wo _ (by omega) (by omega)]
        refine ⟨(A2.2 a ha).1, fun j hj => ?_⟩
        rw [Wo _ (by omega) (by omega)]; exact (A2.2 a ha).2 j hj
/-- seventeen places from to on are 0 -/
theorem rs_zero {Q : Option Value → am_St → Prop} {to : Nat} {a1 a2 : Option Value} (ht : to + 17 ≤ 1300) (k : ∀ (G : Nat → Int32), (∀ k, k < to ∨ to + 17 ≤ k → G k = am_A σ 16 4 k) → (∀ j, j < 17 → G (to + j) = 0) → am_T true ya_11_readStep d Q 93 [some (.ref (am_oid 16)), a1, a2, some (.int (nI to)), some (.int (nI 17))] [] (am_sA σ 16 4 G)) : am_T true ya_11_readStep d Q 70 [some (.ref (am_oid 16)), a1, a2, some (.int (nI to)), some (.int 0)] [] σ := by
  have loop : ∀ (j x : Nat) (G : Nat → Int32), x + j = 17 → (∀ k, k < to ∨ to + 17 ≤ k → G k = am_A σ 16 4 k) → (∀ j, j < x → G (to + j) = 0) → am_T true ya_11_readStep d Q 70 [some (.ref (am_oid 16)), a1, a2, some (.int (nI to)), some (.int (nI x))] [] (am_sA σ 16 4 G) := by
    intro j
    induction j with
    | zero =>
      intro x G hx h1 h2
      have : x = 17 := by omega
      subst this
      exact kb_11_readStep_70 (kf := fun z => absurd (show (17 : Int32) ≤ nI 17 by decide) z) (kt := fun _ => k G h1 h2)
    | succ j ih =>
      intro x G hx h1 h2
      refine kb_11_readStep_70 (kt := fun z => absurd z (by rw [show (17 : Int32) = nI 17 from rfl]; exact nI_ge (by omega) (by omega))) (kf := fun _ => ?_)
      refine kb_11_readStep_77 (hi0 := by rw [nI_add]; exact vp_in_nI (by omega) (by decide)) (k := ?_)
      rw [nI_add, nI_clamp (show to + x < 2 ^ 31 by omega), nI_1, am_A_sA, if_pos ⟨rfl, rfl⟩, am_sA_sA]
      refine ih (x + 1) _ (by omega) (fun k hk => by rw [upd_n (by omega)]; exact h1 k hk) (fun j hj => ?_)
      by_cases q : j = x
      · rw [q, upd_s]
      · rw [upd_n (by omega)]; exact h2 j (by omega)
  have := loop 17 0 (am_A σ 16 4) rfl (fun _ _ => rfl) (fun j hj => absurd hj (Nat.not_lt_zero j))
  rw [am_sA_id, nI_0] at this
  exact this
theorem wh_n4 (u : Nat) : (wh_n u = 4) = (u = 249) := by
  unfold wh_n
  refine propext ⟨fun h => ?_, fun h => by rw [h]; decide⟩
  by_cases c : u = 249
  · exact c
  · rw [if_neg c] at h
    split at h
    · exact absurd h (by decide)
    · split at h
      · exact absurd h (by decide)
      · split at h
        · exact absurd h (by decide)
        · split at h
          · exact absurd h (by decide)
          · split at h
            · exact absurd h (by decide)
            · split at h
              · exact absurd h (by decide)
              · split at h
                · exact absurd h (by decide)
                · exact absurd h (by decide)
theorem rl_step (h : rr_K σ tc n i) (hB : rq_B σ q l) (hk : pq_ok q) : am_C true ya_11_readStep (d + 11) [.ref (am_oid 16)] σ (fun r τ => r = none ∧ mo_XF σ τ ∧ rl_R (pl_step (tk_s tc n) q i) tc n l τ) := by
  have hna := hk.2.1
  have hk' := hk
  obtain ⟨⟨c1, n1, n2, n3, n4⟩, -⟩ := hk'
  have hB' := hB
  obtain ⟨b1, b2, b3, b4, b5, b6⟩ := hB'
  have w3' : am_A σ 16 4 3 = nI (pP_K (pQ_p q)) := b1.1.2.2.2.1
  refine am_enter rfl (by simp [Value.category]) (Nat.le_of_ble_eq_true rfl) ?_
  unfold pl_step
  by_cases z : 8 ≤ pP_K (pQ_p q)
  · have e8 : pP_K (pQ_p q) = 8 := by omega
    rw [if_pos z]
    refine kb_11_readStep_0 (kt := fun y => absurd (by rw [w3', e8]; rfl) y) (kf := fun _ => ?_)
    refine kb_11_readStep_11 (hC := sp_11_wrong_0 h.2.2 2) (k := fun r υ hr => ?_)
    obtain ⟨rfl, hυ⟩ := hr
    rw [h.2.1.2.1] at hυ
    obtain ⟨w1, w2, w3, w4⟩ := rr_w (σ := σ) (X := Nat × pa_Q) (ok := fun x τ => rr_K τ tc n x.1 ∧ rq_P τ x.2 l) (k := 2) (w := (tk_s tc n i).2.1) (Or.inr (Or.inl rfl))
    have hυ' : υ = am_sI (am_sI σ 16 12 (nI 2)) 16 13 (nI (tk_s tc n i).2.1) := hυ
    rw [← hυ'] at w1 w2 w3 w4
    refine kb_11_readStep_16 (hC := sp_11_goOn_f w4) (k := fun r υ2 hr => ?_)
    obtain ⟨rfl, rfl⟩ := hr
    refine kb_11_readStep_20 (hC := sp_11_isWord_f w4 4) (k := fun r υ3 hr => ?_)
    obtain ⟨rfl, rfl⟩ := hr
    exact kb_11_readStep_34 (kf := fun y => absurd rfl y) (kt := fun _ => kb_11_readStep_46 (kt := fun y => absurd y w4) (kf := fun _ => kb_11_readStep_53 ⟨rfl, w2, w1⟩))
  rw [if_neg z]
  refine kb_11_readStep_0 (kf := fun y => absurd (nI_inj (by omega) (by decide) (show nI (pP_K (pQ_p q)) = nI 8 by rw [w3'] at y; exact y)) (by omega)) (kt := fun _ => ?_)
  refine kb_11_readStep_16 (hC := sp_11_goOn_0 (d := d + 4) h) (k := fun r τ1 hr => ?_)
  obtain ⟨rfl, F1, K1⟩ := hr
  have A1 : ra_At τ1 (pQ_A q) := ⟨by rw [F1.a4]; exact b2.1, by rw [F1.a4]; exact b2.2⟩
  have e5 : am_A τ1 16 4 5 = nI (pQ_na q) := A1.1
  refine kb_11_readStep_20 (hC := sp_11_isWord_0 K1 wh_n4) (k := fun r τ1' hr => ?_)
  obtain ⟨rfl, rfl⟩ := hr
  rw [e5]
  /- the step itself -/
  have fin : ∀ (τ2 : am_St) (A : pa_A) (j m : Nat) (cf' cn' : Nat → Nat) (res : pa_F ⊕ (Nat × pa_Q)), mo_XF σ τ2 → rr_K τ2 tc n j → ra_At τ2 A → pQ_na q ≤ A.1 → A.1 ≤ 144 → rx_a (182 + 5 * pQ_na q) σ τ2 → cn' (8 + pP_K (pQ_p q)) = m → (m ≠ 0 → pQ_na q = cf' (8 + pP_K (pQ_p q))) → (∀ c, c ≠ 8 + pP_K (pQ_p q) → cf' c = pP_cf (pQ_p q) c ∧ cn' c = pP_cn (pQ_p q) c) → res = .inr (j, pq_c q (pP_ns (pQ_p q)) (pP_nb (pQ_p q)) (pP_K (pQ_p q) + 1) (pP_T (pQ_p q)) A cf' cn') → am_T true ya_11_readStep (d + 11) (fun r τ => r = none ∧ mo_XF σ τ ∧ rl_R res tc n l τ) 46 [some (.ref (am_oid 16)), some (.int (nI (pQ_na q))), some (.int (nI m)), none, none] [] τ2 := by
    intro τ2 A j m cf' cn' res F2 K2 A2 hA hA144 o2 hm hcf hc hres
    rw [hres]
    refine kb_11_readStep_46 (kf := fun y => absurd K2.2.2 y) (kt := fun _ => kb_11_readStep_54 (k := ?_))
    have ow : am_A τ2 16 4 3 = nI (pP_K (pQ_p q)) := by rw [o2 3 (by omega) (by omega)]; exact w3'
    have e1 : (30 : Int32) + 17 * nI (pP_K (pQ_p q)) = nI (30 + 17 * pP_K (pQ_p q)) := by rw [show (17 : Int32) = nI 17 from rfl, nI_mul, show (30 : Int32) = nI 30 from rfl, nI_add]
    rw [ow, e1]
    obtain ⟨to, hto⟩ : ∃ to, to = 30 + 17 * pP_K (pQ_p q) := ⟨_, rfl⟩
    rw [← hto]
    refine rs_zero (by omega) (fun G g1 g2 => ?_)
    have AG : am_A (am_sA τ2 16 4 G) 16 4 = G := by rw [am_A_sA, if_pos ⟨rfl, rfl⟩]
    have cl : (nI to).toNatClampNeg = to := nI_clamp (by omega)
    have cl1 : (nI (to + 1)).toNatClampNeg = to + 1 := nI_clamp (by omega)
    have u1 : upd (upd G to (nI (pQ_na q))) (to + 1) (nI m) 3 = nI (pP_K (pQ_p q)) := by rw [upd_n (by omega), upd_n (by omega), g1 3 (Or.inl (by omega))]; exact ow
    refine kb_11_readStep_93 (hi0 := vp_in_nI (by omega) (by decide)) (hi1 := by rw [nI_1]; exact vp_in_nI (by omega) (by decide)) (hq := ?_)
    rw [nI_1, cl, cl1, AG, u1, nI_1, am_sA_sA, am_sA_sA, am_sA_sA]
    obtain ⟨W', hW'⟩ : ∃ W', W' = upd (upd (upd G to (nI (pQ_na q))) (to + 1) (nI m)) 3 (nI (pP_K (pQ_p q) + 1)) := ⟨_, rfl⟩
    rw [← hW']
    have AW : am_A (am_sA τ2 16 4 W') 16 4 = W' := by rw [am_A_sA, if_pos ⟨rfl, rfl⟩]
    have Wo : ∀ k, k ≠ 3 → k ≠ to → k ≠ to + 1 → W' k = G k := fun k a b c => by rw [hW', upd_n a, upd_n c, upd_n b]
    have Wt : ∀ k, k ≠ 3 → ¬ (to ≤ k ∧ k < to + 17) → W' k = am_A τ2 16 4 k := fun k a b => by rw [Wo k a (by omega) (by omega), g1 k (by omega)]
    have Ws : ∀ k, k < 182 → k ≠ 3 → k ≠ 5 → ¬ (to ≤ k ∧ k < to + 17) → W' k = am_A σ 16 4 k := fun k a b c e => by rw [Wt k b e, o2 k (by omega) c]
    have F3 : mo_XF σ (am_sA τ2 16 4 W') := F2.sA (by rfl) _
    refine ⟨rfl, F3, K2.sA, ?_, ⟨?_, fun a ha => ?_⟩, hB.N F3 (by rw [AW]; exact Ws 0 (by omega) (by omega) (by omega) (by omega)), (F3.1 16 rfl).trans b4, fun _ => rfl, by rw [AW]; exact (Ws 6 (by omega) (by omega) (by omega) (by omega)).trans b6⟩
    · rw [AW]
      rw [hto] at Ws
      refine b1.step hk (by omega) Ws (by rw [hW', upd_s]) (xf := pQ_na q) ?_ ?_ (fun j j1 j2 => ?_) hA hA (by rw [hm]; exact hcf) hc
      · rw [← hto, hW', upd_n (by omega), upd_n (by omega), upd_s]
      · rw [← hto, hW', upd_n (by omega), upd_s, hm]
      · rw [← hto, Wo _ (by omega) (by omega) (by omega)]; exact g2 j j2
    · rw [AW, Wt 5 (by omega) (by omega)]; exact A2.1
    · have ha' : a < A.1 := ha
      rw [AW, Wt _ (by omega) (by omega)]
      refine ⟨(A2.2 a ha).1, fun j hj => ?_⟩
      rw [Wt _ (by omega) (by omega)]; exact (A2.2 a ha).2 j hj
  cases hw : pa_w 249 (tk_s tc n (i + 1)) with
  | false =>
    rw [if_neg (by decide)]
    refine kb_11_readStep_34 (kf := fun y => absurd rfl y) (kt := fun _ => ?_)
    refine fin τ1' (pQ_A q) (i + 1) 0 _ _ _ F1.kr K1 A1 (Nat.le_refl _) (by show pQ_na q ≤ 144; omega) (rx_a.of F1.a4) ?_ (fun y => absurd rfl y) (fun c _ => ⟨rfl, rfl⟩) rfl
    exact (hk.2.2.2.2.2.1 (pP_K (pQ_p q)) (Nat.le_refl _) (by omega)).1
  | true =>
    rw [if_pos rfl]
    refine kb_11_readStep_34 (kt := fun y => absurd y (by decide)) (kf := fun _ => ?_)
    refine kb_11_readStep_37 (hC := sp_11_goOn_0 (d := d + 4) K1) (k := fun r τ2 hr => ?_)
    obtain ⟨rfl, F2, K2⟩ := hr
    have A2 : ra_At τ2 (pQ_A q) := ⟨by rw [F2.a4]; exact A1.1, by rw [F2.a4]; exact A1.2⟩
    refine kb_11_readStep_41 (hC := sp_11_readCondition_0 (d := d) K2 ((b3.kf F1).kf F2) A2 (by show pQ_na q + 8 ≤ 144; omega)) (k := fun r τ3 hr => ?_)
    obtain ⟨⟨v, rfl⟩, F3, o3, hr⟩ := hr
    have F13 := (F1.kr.tr F2.kr).tr F3
    have o13 : rx_a (182 + 5 * pQ_na q) σ τ3 := ((rx_a.of F1.a4).tr (rx_a.of F2.a4)).tr o3
    refine kb_11_readStep_45 (k := ?_)
    unfold pl_con
    cases ex : pa_cd (tk_s tc n) (pP_nv (pQ_p q)) (pQ_nm q) 8 (i + 2) (pQ_A q) with
    | inl e =>
      have ex' : pa_cd (tk_s tc n) (pP_nv (pQ_p q)) (pQ_nm q) 8 (i + 1 + 1) (pQ_A q) = .inl e := ex
      rw [ex'] at hr
      exact kb_11_readStep_46 (kt := fun y => absurd y (rr_f (pa_cd_e 8 ex) hr)) (kf := fun _ => kb_11_readStep_53 ⟨rfl, F13, hr⟩)
    | inr x =>
      have ex' : pa_cd (tk_s tc n) (pP_nv (pQ_p q)) (pQ_nm q) 8 (i + 1 + 1) (pQ_A q) = .inr x := ex
      rw [ex'] at hr
      obtain ⟨K3, A3, hv⟩ := hr
      cases hv
      obtain ⟨g1, g2, g3, g4⟩ := pa_cd_gt 8 ex pa_le.rf
      have g2' : x.2.1 ≤ pQ_na q + 8 := g2
      exact fin τ3 x.2 x.1 (x.2.1 - pQ_na q) _ _ _ F13 K3 A3 g4.1 (by omega) o13 (up1_s _ _ _) (fun _ => (up1_s _ _ _).symm) (fun c hc => ⟨up1_n hc, up1_n hc⟩) rfl
end MLINES
