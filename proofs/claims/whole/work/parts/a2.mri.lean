/-! the reference reads a line, a text; the reference in a state -/
section MLINE
variable {d n i l : Nat} {tc : Nat → Nat} {q : pa_Q} {σ : am_St}
theorem tk_at_gt {a : Nat} (h : (tk_at tc n a).1 ≠ 0) : a + 1 ≤ (tk_at tc n a).2.2.1 := by
  unfold tk_at at h ⊢
  split at h
  · rename_i hb
    have ga : a ≤ tk_e tc tk_bl n a := (tk_rn_ge (n - a) a).1
    rw [if_pos hb]
    have g2 : tk_e tc tk_bl n a + 1 ≤ (tk_at1 tc n (tk_e tc tk_bl n a)).2.2.1 := by
      unfold tk_at1
      split
      · rename_i hl
        show _ ≤ tk_e tc tk_lt n (tk_e tc tk_bl n a)
        rw [tk_e_step hb hl]
        exact (tk_rn_ge (n - (tk_e tc tk_bl n a + 1)) (tk_e tc tk_bl n a + 1)).1
      · split
        · rename_i hl
          show _ ≤ tk_e tc tk_dg n (tk_e tc tk_bl n a)
          rw [tk_e_step hb hl]
          exact (tk_rn_ge (n - (tk_e tc tk_bl n a + 1)) (tk_e tc tk_bl n a + 1)).1
        · exact Nat.le_refl _
    omega
  · exact absurd rfl h
theorem tk_at_0 {a : Nat} (h : (tk_at tc n a).1 = 0) : (tk_at tc n a).2.2.1 = n := by
  unfold tk_at at h ⊢
  split at h
  · rename_i hb
    exfalso
    unfold tk_at1 at h
    split at h
    · have h' : (if tk_e tc tk_lt n (tk_e tc tk_bl n a) - tk_e tc tk_bl n a ≤ 6 then 1 else 3) = 0 := h
      split at h' <;> exact absurd h' (by decide)
    · split at h
      · exact absurd (show (2 : Nat) = 0 from h) (by decide)
      · rename_i h1 h2
        have h' : tk_k (tc (tk_e tc tk_bl n a)) = 0 := h
        by_cases k1 : tk_k (tc (tk_e tc tk_bl n a)) = 1
        · omega
        · by_cases k2 : tk_k (tc (tk_e tc tk_bl n a)) = 2
          · omega
          · exact (tk_k_o k1 k2).2.2.2.2.1 h'
  · rename_i hb
    rw [if_neg hb]
theorem tk_s_gt : ∀ j, (tk_s tc n j).1 ≠ 0 → j + 1 ≤ (tk_s tc n j).2.2.1 := by
  intro j
  induction j with
  | zero => intro h; exact tk_at_gt h
  | succ j ih =>
    intro h
    have h' : (tk_at tc n (tk_s tc n j).2.2.1).1 ≠ 0 := h
    have g := tk_at_gt h'
    show j + 1 + 1 ≤ (tk_at tc n (tk_s tc n j).2.2.1).2.2.1
    by_cases c : (tk_s tc n j).1 = 0
    · exfalso
      have e : (tk_s tc n j).2.2.1 = n := by
        cases j with
        | zero => exact tk_at_0 c
        | succ j => exact tk_at_0 c
      rw [e, tk_at_end] at h'
      exact h' rfl
    · have := ih c
      omega
theorem tk_s_z (j : Nat) (h : n ≤ j) : (tk_s tc n j).1 = 0 := by
  by_cases c : (tk_s tc n j).1 = 0
  · exact c
  · have h1 := tk_s_gt j c
    have h2 := tk_s_le (tc := tc) (n := n) j
    omega
theorem wh_nw (u : Nat) : (wh_n u = 0) = (u = 16083) ∧ (wh_n u = 1) = (u = 10492274) ∧ (wh_n u = 2) = (u = 1489) ∧ (wh_n u = 3) = (u = 388708) ∧ (wh_n u = 5) = (u = 14006) ∧ (wh_n u = 6) = (u = 397838) := by
  unfold wh_n
  by_cases a0 : u = 16083
  · subst a0; simp
  by_cases a1 : u = 10492274
  · subst a1; simp
  by_cases a2 : u = 1489
  · subst a2; simp
  by_cases a3 : u = 388708
  · subst a3; simp
  by_cases a4 : u = 249
  · subst a4; simp
  by_cases a5 : u = 14006
  · subst a5; simp
  by_cases a6 : u = 397838
  · subst a6; simp
  by_cases a7 : u = 1111
  · subst a7; simp
  rw [if_neg a0, if_neg a1, if_neg a2, if_neg a3, if_neg a4, if_neg a5, if_neg a6, if_neg a7]
  simp [a0, a1, a2, a3, a5, a6]
theorem rq_P.ln {τ : am_St} {m : Nat} (h : rq_P σ q l) (hk : pq_ok q) (F : mo_KF σ τ) (hm : m = l + 1) : rq_P (am_sA τ 16 4 (upd (am_A τ 16 4) 6 (nI m))) q m := by
  obtain ⟨b1, b2, b3, b4, b5, b6⟩ := h
  have AW : ∀ G, am_A (am_sA τ 16 4 G) 16 4 = G := fun G => by rw [am_A_sA, if_pos ⟨rfl, rfl⟩]
  have Wo : ∀ k, k ≠ 6 → upd (am_A τ 16 4) 6 (nI m) k = am_A σ 16 4 k := fun k a => by rw [upd_n a, F.a4]
  refine ⟨?_, ⟨?_, fun a ha => ?_⟩, ⟨?_, b3.2.1, ?_⟩, (F.1 16 rfl).trans b4, b5, by rw [AW, upd_s]⟩
  · rw [AW]; exact b1.cg hk (fun k _ _ a => Wo k a)
  · rw [AW, Wo 5 (by omega)]; exact b2.1
  · rw [AW, Wo _ (by omega)]
    refine ⟨(b2.2 a ha).1, fun j hj => ?_⟩
    rw [Wo _ (by omega)]; exact (b2.2 a ha).2 j hj
  · rw [AW, Wo 0 (by omega)]; exact b3.1
  · rw [am_A_sA, if_neg (by simp), F.2 5 rfl]; exact b3.2.2
theorem sp_11_readLine (h : rr_K σ tc n i) (hP : rq_P σ q l) (hk : pq_ok q) : am_C true ya_11_readLine (d + 12) [.ref (am_oid 16)] σ (fun r τ => r = none ∧ mo_LX σ τ ∧ rl_R (pl_ln (tk_s tc n) q i) tc n (l + 1) τ) := by
  have t3 := h.2.1.2.2.1
  refine am_enter rfl (by simp [Value.category]) (Nat.le_of_ble_eq_true rfl) ?_
  /- the end of a line -/
  have fin : ∀ (τ : am_St) (a1 : Option Value), mo_LX σ τ → rl_R (pl_line (tk_s tc n) q i) tc n l τ → am_T true ya_11_readLine (d + 12) (fun r τ => r = none ∧ mo_LX σ τ ∧ rl_R (pl_ln (tk_s tc n) q i) tc n (l + 1) τ) 106 [some (.ref (am_oid 16)), a1] [] τ := by
    intro τ a1 F hr
    have beh : ∀ {υ : am_St} {e : pa_F}, ¬ am_I υ 16 12 = 0 → mo_LX σ υ → am_I υ 16 12 = nI e.1 → am_I υ 16 13 = nI e.2 → pl_ln (tk_s tc n) q i = .inl e → am_T true ya_11_readLine (d + 12) (fun r τ => r = none ∧ mo_LX σ τ ∧ rl_R (pl_ln (tk_s tc n) q i) tc n (l + 1) τ) 127 [some (.ref (am_oid 16)), a1] [] υ := fun {υ e} hz F e1 e2 el => by
      rw [el]
      refine kb_11_readLine_127 (hC := sp_11_goOn_f hz) (k := fun r ω h' => ?_)
      obtain ⟨rfl, rfl⟩ := h'
      exact kb_11_readLine_131 ⟨rfl, F.sA (by rfl) _, e1, e2⟩
    cases ex : pl_line (tk_s tc n) q i with
    | inl e =>
      rw [ex] at hr
      have hz := rr_f (pl_line_e ex) hr
      exact kb_11_readLine_106 (kf := fun z => absurd z hz) (kt := fun _ => beh hz F hr.1 hr.2 (by unfold pl_ln; rw [ex]))
    | inr x =>
      rw [ex] at hr
      obtain ⟨K, P⟩ := hr
      have hB := tk_s_B (tc := tc) h.1.1
      have hkx := (pl_line_ok hB hk ex).1
      refine kb_11_readLine_106 (kt := fun z => absurd K.2.2 z) (kf := fun _ => ?_)
      refine kb_11_readLine_113 (hC := sp_11_isSign_0 (c := 59) K (by decide) (by decide)) (k := fun r τ' h' => ?_)
      obtain ⟨rfl, rfl⟩ := h'
      by_cases c : (tk_s tc n x.1).1 = 59
      · have el : pl_ln (tk_s tc n) q i = .inr (x.1 + 1, x.2) := by unfold pl_ln; rw [ex]; exact if_pos c
        rw [el, decide_eq_true c]
        refine kb_11_readLine_119 (kf := fun z => absurd z (by decide)) (kt := fun _ => ?_)
        refine kb_11_readLine_127 (hC := sp_11_goOn_0 (d := d + 5) K) (k := fun r τ2 h' => ?_)
        obtain ⟨rfl, F2, K2⟩ := h'
        have e6 : am_A τ2 16 4 6 + 1 = nI (l + 1) := by rw [F2.a4, P.2.2.2.2.2, nI_1]
        refine kb_11_readLine_131 ?_
        rw [e6]
        exact ⟨rfl, (F.tr F2.kl).sA (by rfl) _, K2.sA, P.ln hkx F2 rfl⟩
      · have el : pl_ln (tk_s tc n) q i = .inl (1, (tk_s tc n x.1).2.1) := by unfold pl_ln; rw [ex]; exact if_neg c
        rw [decide_eq_false c]
        refine kb_11_readLine_119 (kt := fun z => absurd rfl z) (kf := fun _ => kb_11_readLine_122 (hC := sp_11_wrong_0 K.2.2 1) (k := fun r υ h' => ?_))
        obtain ⟨rfl, hυ⟩ := h'
        rw [K.2.1.2.1] at hυ
        obtain ⟨w1, w2, w3, w4⟩ := rr_w (σ := τ') (X := Nat) (ok := fun _ _ => True) (k := 1) (w := (tk_s tc n x.1).2.1) (Or.inl rfl)
        have hυ' : υ = am_sI (am_sI τ' 16 12 (nI 1)) 16 13 (nI (tk_s tc n x.1).2.1) := hυ
        rw [← hυ'] at w1 w2 w4
        exact beh w4 (F.tr w2.xl) w1.1 w1.2 el
  have pw : ∀ w, pa_w w (tk_s tc n i) = decide ((tk_s tc n i).1 = 1 ∧ (tk_s tc n i).2.2.2 = w) := fun w => rfl
  have F16 : mo_LX σ (am_sI σ 16 16 1) := mo_Fm.rf.sI (by rfl) _
  have K16 : rr_K (am_sI σ 16 16 1) tc n i := by
    obtain ⟨k1, ⟨t1, t2, t3, t4, t5, t6⟩, k3⟩ := h
    exact ⟨k1.cg (by rw [am_I_sI, if_neg (by simp)]) rfl, ⟨by rw [am_I_sI, if_neg (by simp)]; exact t1, by rw [am_I_sI, if_neg (by simp)]; exact t2, by rw [am_I_sI, if_neg (by simp)]; exact t3, by rw [am_I_sI, if_neg (by simp), am_I_sI, if_neg (by simp)]; exact t4, by rw [am_I_sI, if_neg (by simp)]; exact t5, by rw [am_I_sI, if_neg (by simp)]; exact t6⟩, by rw [am_I_sI, if_neg (by simp)]; exact k3⟩
  have B16 : rq_B (am_sI σ 16 16 1) q l := ⟨hP.1, hP.2.1, hP.2.2.1, by rw [am_I_sI, if_pos ⟨rfl, rfl⟩], hP.2.2.2.2.1, hP.2.2.2.2.2⟩
  /- a line that is none -/
  have none_ : ∀ x1 : Int32, pl_line (tk_s tc n) q i = .inl (1, (tk_s tc n i).2.1) → am_T true ya_11_readLine (d + 12) (fun r τ => r = none ∧ mo_LX σ τ ∧ rl_R (pl_ln (tk_s tc n) q i) tc n (l + 1) τ) 101 [some (.ref (am_oid 16)), some (.int x1)] [] (am_sI σ 16 16 1) := fun x1 el => by
    refine kb_11_readLine_101 (hC := sp_11_wrong_0 K16.2.2 1) (k := fun r υ h' => ?_)
    obtain ⟨rfl, hυ⟩ := h'
    rw [K16.2.1.2.1] at hυ
    obtain ⟨w1, w2, w3, w4⟩ := rr_w (σ := am_sI σ 16 16 1) (X := Nat × pa_Q) (ok := fun x τ => rr_K τ tc n x.1 ∧ rq_P τ x.2 l) (k := 1) (w := (tk_s tc n i).2.1) (Or.inl rfl)
    have hυ' : υ = am_sI (am_sI (am_sI σ 16 16 1) 16 12 (nI 1)) 16 13 (nI (tk_s tc n i).2.1) := hυ
    rw [← hυ'] at w1 w2
    exact fin υ _ (F16.tr w2.xl) (by rw [el]; exact w1)
  by_cases k1 : (tk_s tc n i).1 = 1
  · have t10 := (h.2.1.2.2.2.1 k1).1
    obtain ⟨u, hu⟩ : ∃ u, u = (tk_s tc n i).2.2.2 := ⟨_, rfl⟩
    have pw' : ∀ w, pa_w w (tk_s tc n i) = decide (u = w) := fun w => by rw [pw w, ← hu]; simp [k1]
    obtain ⟨e0, e1, e2, e3, e5, e6⟩ := wh_nw u
    rw [← hu] at t10
    refine kb_11_readLine_0 (kt := fun z => absurd (by rw [t3, rs_k_0]; exact k1) z) (kf := fun _ => kb_11_readLine_7 (k := ?_))
    rw [t10]
    refine kb_11_readLine_15 (kf := fun z => ?f15) (kt := fun z0 => ?t15)
    case f15 =>
      rw [e0] at z
      refine kb_11_readLine_20 (hC := rl_var (d := d + 3) h hP hk) (k := fun r τ h' => ?_)
      obtain ⟨rfl, F, hr⟩ := h'
      refine kb_11_readLine_24 (k := fin τ _ F ?_)
      have el : pl_line (tk_s tc n) q i = pl_var (tk_s tc n) q i := by unfold pl_line; rw [pw', z]; rfl
      rw [el]; exact hr
    rw [e0] at z0
    refine kb_11_readLine_27 (kf := fun z => ?f27) (kt := fun z1 => ?t27)
    case f27 =>
      rw [e1] at z
      refine kb_11_readLine_37 (hC := rl_start (d := d) K16 B16 hk) (k := fun r τ h' => ?_)
      obtain ⟨rfl, F, hr⟩ := h'
      refine kb_11_readLine_45 (k := fin τ _ (F16.tr F.xl) ?_)
      have el : pl_line (tk_s tc n) q i = pl_start (tk_s tc n) q i := by unfold pl_line; rw [pw', pw', z]; rfl
      rw [el]; exact hr
    rw [e1] at z1
    refine kb_11_readLine_48 (kf := fun z => ?f48) (kt := fun z2 => ?t48)
    case f48 =>
      rw [e2] at z
      refine kb_11_readLine_53 (hC := rl_bad (d := d) K16 B16 hk) (k := fun r τ h' => ?_)
      obtain ⟨rfl, F, hr⟩ := h'
      refine kb_11_readLine_61 (k := fin τ _ (F16.tr F.xl) ?_)
      have el : pl_line (tk_s tc n) q i = pl_bad (tk_s tc n) q i := by unfold pl_line; rw [pw', pw', pw', z]; rfl
      rw [el]; exact hr
    rw [e2] at z2
    refine kb_11_readLine_64 (kf := fun z => ?f64) (kt := fun z3 => ?t64)
    case f64 =>
      rw [e3] at z
      refine kb_11_readLine_69 (hC := rl_step (d := d) K16 B16 hk) (k := fun r τ h' => ?_)
      obtain ⟨rfl, F, hr⟩ := h'
      refine kb_11_readLine_73 (k := fin τ _ (F16.tr F.xl) ?_)
      have el : pl_line (tk_s tc n) q i = pl_step (tk_s tc n) q i := by unfold pl_line; rw [pw', pw', pw', pw', z]; rfl
      rw [el]; exact hr
    rw [e3] at z3
    refine kb_11_readLine_76 (kf := fun z => ?f76) (kt := fun z5 => ?t76)
    case f76 =>
      rw [e5] at z
      refine kb_11_readLine_81 (hC := rl_set (d := d + 2) K16 B16 hk) (k := fun r τ h' => ?_)
      obtain ⟨rfl, F, hr⟩ := h'
      refine kb_11_readLine_85 (k := fin τ _ (F16.tr F.xl) ?_)
      have el : pl_line (tk_s tc n) q i = pl_set (tk_s tc n) q i := by unfold pl_line; rw [pw', pw', pw', pw', pw', z]; rfl
      rw [el]; exact hr
    rw [e5] at z5
    refine kb_11_readLine_88 (kf := fun z => ?f88) (kt := fun z6 => ?t88)
    case f88 =>
      rw [e6] at z
      refine kb_11_readLine_94 (hC := rl_test (d := d + 1) K16 B16 hk) (k := fun r τ h' => ?_)
      obtain ⟨rfl, F, hr⟩ := h'
      refine kb_11_readLine_98 (k := fin τ _ (F16.tr F.xl) ?_)
      have el : pl_line (tk_s tc n) q i = pl_test (tk_s tc n) q i := by unfold pl_line; rw [pw', pw', pw', pw', pw', pw', z]; rfl
      rw [el]; exact hr
    rw [e6] at z6
    refine none_ _ ?_
    unfold pl_line
    rw [pw', pw', pw', pw', pw', pw', decide_eq_false z0, decide_eq_false z1, decide_eq_false z2, decide_eq_false z3, decide_eq_false z5, decide_eq_false z6]
    rfl
  · have pw' : ∀ w, pa_w w (tk_s tc n i) = false := fun w => by rw [pw w]; exact decide_eq_false (fun z => k1 z.1)
    have el : pl_line (tk_s tc n) q i = .inl (1, (tk_s tc n i).2.1) := by unfold pl_line; rw [pw', pw', pw', pw', pw', pw']; rfl
    refine kb_11_readLine_0 (kf := fun z => absurd (by rw [t3, rs_k_0] at z; exact z) k1) (kt := fun _ => kb_11_readLine_14 (k := ?_))
    exact kb_11_readLine_15 (kf := fun z => absurd z (by decide)) (kt := fun _ => kb_11_readLine_27 (kf := fun z => absurd z (by decide)) (kt := fun _ => kb_11_readLine_48 (kf := fun z => absurd z (by decide)) (kt := fun _ => kb_11_readLine_64 (kf := fun z => absurd z (by decide)) (kt := fun _ => kb_11_readLine_76 (kf := fun z => absurd z (by decide)) (kt := fun _ => kb_11_readLine_88 (kf := fun z => absurd z (by decide)) (kt := fun _ => none_ _ el))))))
abbrev mo_TX := mo_Fm [6, 7, 8, 9, 10, 11, 12, 13, 16] [4, 5]
theorem rq_P_0 (hW : ∀ k, k < 1300 → am_A σ 16 4 k = 0) (h16 : am_I σ 16 16 = 0) : rq_P σ pa_0 0 :=
  ⟨⟨⟨hW 0 (by decide), hW 1 (by decide), hW 2 (by decide), hW 3 (by decide), hW 4 (by decide)⟩, fun v hv => absurd hv (Nat.not_lt_zero v), fun v hv => absurd hv (Nat.not_lt_zero v), fun v hv => absurd hv (Nat.not_lt_zero v), fun v hv => absurd hv (Nat.not_lt_zero v), fun v hv => absurd hv (Nat.not_lt_zero v)⟩, ⟨hW 5 (by decide), fun v hv => absurd hv (Nat.not_lt_zero v)⟩, ⟨hW 0 (by decide), by decide, fun v hv => absurd hv (Nat.not_lt_zero v)⟩, h16, fun z => absurd rfl z, hW 6 (by decide)⟩
theorem sp_11_readText (hn : n ≤ 900) (hc : ∀ i, tc i < 256) (ht : ∀ i, i < n → am_A σ 16 1 i = nI (tc i)) : am_C true ya_11_readText (d + 13) [.ref (am_oid 16), .int (nI n)] σ (fun r τ => r = none ∧ mo_TX σ τ ∧ rr_R (pl_all tc n) (fun x τ => am_I τ 16 12 = 0 ∧ rq_P τ x.2 x.1) τ) := by
  have hB := tk_s_B (tc := tc) hn
  refine am_enter rfl (by simp [Value.category]) (Nat.le_of_ble_eq_true rfl) (kb_11_readText_0 (k := ?_))
  have lines : ∀ (f i : Nat) (q : pa_Q) (l : Nat) (τ : am_St) (a2 : Option Value), n ≤ i + f → mo_TX σ τ → rr_K τ tc n i → rq_P τ q l → pq_ok q → am_T true ya_11_readText (d + 13) (fun r τ => r = none ∧ mo_TX σ τ ∧ rr_R (pl_tx (tk_s tc n) f i q l) (fun x τ => am_I τ 16 12 = 0 ∧ rq_P τ x.2 x.1) τ) 46 [some (.ref (am_oid 16)), some (.int (nI n)), a2] [] τ := by
    intro f
    induction f with
    | zero =>
      intro i q l τ a2 hf F K P hk
      have c0 : (tk_s tc n i).1 = 0 := tk_s_z i hf
      refine kb_11_readText_46 (kt := fun z => absurd K.2.2 z) (kf := fun _ => kb_11_readText_53 (kf := fun z => absurd (by rw [K.2.1.2.2.1, rs_k_3]; exact c0) z) (kt := fun _ => kb_11_readText_68 ⟨rfl, F, K.2.2, P⟩))
    | succ f ih =>
      intro i q l τ a2 hf F K P hk
      refine kb_11_readText_46 (kt := fun z => absurd K.2.2 z) (kf := fun _ => ?_)
      by_cases c0 : (tk_s tc n i).1 = 0
      · have e : pl_tx (tk_s tc n) (f + 1) i q l = .inr (l, q) := by unfold pl_tx; rw [if_pos c0]
        rw [e]
        exact kb_11_readText_53 (kf := fun z => absurd (by rw [K.2.1.2.2.1, rs_k_3]; exact c0) z) (kt := fun _ => kb_11_readText_68 ⟨rfl, F, K.2.2, P⟩)
      · have e : pl_tx (tk_s tc n) (f + 1) i q l = match pl_ln (tk_s tc n) q i with
          | .inl e => .inl e
          | .inr x => pl_tx (tk_s tc n) f x.1 x.2 (l + 1) := by show (if (tk_s tc n i).1 = 0 then _ else _) = _; rw [if_neg c0]; rfl
        refine kb_11_readText_53 (kt := fun z => absurd (by rw [K.2.1.2.2.1, rs_k_3] at z; exact z) c0) (kf := fun _ => ?_)
        refine kb_11_readText_61 (hC := sp_11_readLine (d := d) K P hk) (k := fun r τ2 h' => ?_)
        obtain ⟨rfl, F2, hr⟩ := h'
        have F12 : mo_TX σ τ2 := F.tr (F2.wid rfl rfl)
        refine kb_11_readText_65 (k := ?_)
        cases ex : pl_ln (tk_s tc n) q i with
        | inl e' =>
          rw [ex] at hr e
          rw [e]
          exact kb_11_readText_46 (kf := fun z => absurd z (rr_f (pl_ln_e ex) hr)) (kt := fun _ => kb_11_readText_68 ⟨rfl, F12, hr⟩)
        | inr x =>
          rw [ex] at hr e
          rw [e]
          have hx := pl_ln_ok hB hk ex
          exact ih x.1 x.2 (l + 1) τ2 a2 (by omega) F12 hr.1 hr.2 hx.1
  /- the row is cleared -/
  have clear : ∀ (j x : Nat) (G : Nat → Int32), x + j = 1300 → (∀ k, k < x → G k = 0) → am_T true ya_11_readText (d + 13) (fun r τ => r = none ∧ mo_TX σ τ ∧ rr_R (pl_all tc n) (fun x τ => am_I τ 16 12 = 0 ∧ rq_P τ x.2 x.1) τ) 2 [some (.ref (am_oid 16)), some (.int (nI n)), some (.int (nI x))] [] (am_sA σ 16 4 G) := by
    intro j
    induction j with
    | zero =>
      intro x G hx h0
      have : x = 1300 := by omega
      subst this
      obtain ⟨τ0, hτ⟩ : ∃ τ0, τ0 = am_sI (am_sI (am_sI (am_sI (am_sA σ 16 4 G) 16 6 (nI n)) 16 7 0) 16 12 0) 16 16 0 := ⟨_, rfl⟩
      have F0 : mo_TX σ τ0 := by rw [hτ]; exact ((((mo_Fm.rf.sA (by rfl) _).sI (by rfl) _).sI (by rfl) _).sI (by rfl) _).sI (by rfl) _
      have A4 : am_A τ0 16 4 = G := by rw [hτ]; show am_A (am_sA σ 16 4 G) 16 4 = G; rw [am_A_sA, if_pos ⟨rfl, rfl⟩]
      have i6 : am_I τ0 16 6 = nI n := by rw [hτ]; simp [am_I_sI]
      have i7 : am_I τ0 16 7 = nI 0 := by rw [hτ]; simp [am_I_sI]; rfl
      have i12 : am_I τ0 16 12 = 0 := by rw [hτ]; simp [am_I_sI]
      have i16 : am_I τ0 16 16 = 0 := by rw [hτ]; simp [am_I_sI]
      have T0 : ∀ i, i < n → am_A τ0 16 1 i = nI (tc i) := fun i hi => by rw [F0.2 1 rfl]; exact ht i hi
      refine kb_11_readText_2 (kf := fun z => absurd (show (1300 : Int32) ≤ nI 1300 by decide) z) (kt := fun _ => ?_)
      refine kb_11_readText_22 (hC := by rw [← hτ]; exact sp_11_token (d := d + 7) (a := 0) hn hc i6 i7 (Nat.zero_le _) T0) (k := fun r τ1 h' => ?_)
      obtain ⟨rfl, F1, t1⟩ := h'
      have F01 : mo_TX σ τ1 := F0.tr (F1.wid rfl rfl)
      have K1 : rr_K τ1 tc n 0 := ⟨⟨hn, (F1.1 6 rfl).trans i6, fun i hi => by rw [F1.2 1 rfl]; exact T0 i hi, hc⟩, t1, (F1.1 12 rfl).trans i12⟩
      exact lines (n + 1) 0 pa_0 0 τ1 _ (by omega) F01 K1 (rq_P_0 (fun k hk => by rw [F1.a4, A4]; exact h0 k hk) ((F1.1 16 rfl).trans i16)) pq_ok_0
    | succ j ih =>
      intro x G hx h0
      refine kb_11_readText_2 (kt := fun z => absurd z (by rw [show (1300 : Int32) = nI 1300 from rfl]; exact nI_ge (by omega) (by omega))) (kf := fun _ => ?_)
      refine kb_11_readText_9 (hi0 := vp_in_nI (by omega) (by decide)) (k := ?_)
      rw [nI_1, nI_clamp (show x < 2 ^ 31 by omega), am_A_sA, if_pos ⟨rfl, rfl⟩, am_sA_sA]
      refine ih (x + 1) _ (by omega) (fun k hk => ?_)
      by_cases z : k = x
      · rw [z, upd_s]
      · rw [upd_n z]; exact h0 k (by omega)
  have := clear 1300 0 (am_A σ 16 4) (by omega) (fun k hk => absurd hk (Nat.not_lt_zero k))
  rw [am_sA_id, nI_0] at this
  exact this
end MLINE
