/-! the reference reads set, var, a line, a text -/
section MTEXT
variable {d n i l : Nat} {tc : Nat → Nat} {q : pa_Q} {σ : am_St}
theorem rl_set (h : rr_K σ tc n i) (hB : rq_B σ q l) (hk : pq_ok q) : am_C true ya_11_readSet (d + 9) [.ref (am_oid 16)] σ (fun r τ => r = none ∧ mo_XF σ τ ∧ rl_R (pl_set (tk_s tc n) q i) tc n l τ) := by
  have hna := hk.2.1
  have hk' := hk
  obtain ⟨⟨c1, n1, n2, n3, n4⟩, -⟩ := hk'
  have hB' := hB
  obtain ⟨b1, b2, b3, b4, b5, b6⟩ := hB'
  have w3' : am_A σ 16 4 3 = nI (pP_K (pQ_p q)) := b1.1.2.2.2.1
  refine am_enter rfl (by simp [Value.category]) (Nat.le_of_ble_eq_true rfl) ?_
  have wr : ∀ {τ : am_St} {k f : Nat}, rr_K τ tc n k → f = 1 ∨ f = 2 ∨ f = 3 → ∀ υ, υ = am_sI (am_sI τ 16 12 (nI f)) 16 13 (am_I τ 16 8) → rl_R (.inl (f, (tk_s tc n k).2.1)) tc n l υ ∧ mo_XF τ υ ∧ (∀ j, am_A υ 16 j = am_A τ 16 j) ∧ ¬ am_I υ 16 12 = 0 := fun {τ k f} hK hf υ hυ => by
    rw [hK.2.1.2.1] at hυ
    have := rr_w (σ := τ) (X := Nat × pa_Q) (ok := fun x τ => rr_K τ tc n x.1 ∧ rq_P τ x.2 l) (k := f) (w := (tk_s tc n k).2.1) hf
    rw [← hυ] at this
    exact this
  unfold pl_set
  by_cases z : pP_K (pQ_p q) = 0
  · rw [if_pos z]
    refine kb_11_readSet_0 (kt := fun y => absurd (by rw [w3', z]; rfl) y) (kf := fun _ => ?_)
    refine kb_11_readSet_9 (hC := sp_11_wrong_0 h.2.2 1) (k := fun r υ hr => ?_)
    obtain ⟨rfl, hυ⟩ := hr
    obtain ⟨w1, w2, w3, w4⟩ := wr h (Or.inl rfl) υ hυ
    refine kb_11_readSet_14 (hC := sp_11_goOn_f w4) (k := fun r υ2 hr => ?_)
    obtain ⟨rfl, rfl⟩ := hr
    refine kb_11_readSet_18 (hC := sp_11_variable_f w4) (k := fun r υ3 hr => ?_)
    obtain ⟨rfl, rfl⟩ := hr
    refine kb_11_readSet_22 (kt := fun y => absurd rfl y) (kf := fun _ => kb_11_readSet_28 (hC := sp_11_wrong_f w4 1) (k := fun r υ4 hr => ?_))
    obtain ⟨rfl, rfl⟩ := hr
    exact kb_11_readSet_33 (kt := fun y => absurd y w4) (kf := fun _ => kb_11_readSet_40 ⟨rfl, w2, w1⟩)
  rw [if_neg z]
  refine kb_11_readSet_0 (kf := fun y => absurd y (by rw [w3']; exact nI_ne0 (by omega) (by omega))) (kt := fun _ => ?_)
  refine kb_11_readSet_14 (hC := sp_11_goOn_0 (d := d + 2) h) (k := fun r τ1 hr => ?_)
  obtain ⟨rfl, F1, K1⟩ := hr
  have N1 := b3.kf F1
  refine kb_11_readSet_18 (hC := sp_11_variable_0 K1 N1) (k := fun r τ1' hr => ?_)
  obtain ⟨rfl, rfl⟩ := hr
  have hE := pa_oI_m (rr_vb (nm := pQ_nm q) (tc := tc) (n := n) (i := i + 1) N1.2.1)
  cases ev : pa_v (pP_nv (pQ_p q)) (pQ_nm q) (tk_s tc n (i + 1)) with
  | none =>
    refine kb_11_readSet_22 (kt := fun y => absurd rfl y) (kf := fun _ => kb_11_readSet_28 (hC := sp_11_wrong_0 K1.2.2 1) (k := fun r υ hr => ?_))
    obtain ⟨rfl, hυ⟩ := hr
    obtain ⟨w1, w2, w3, w4⟩ := wr K1 (Or.inl rfl) υ hυ
    exact kb_11_readSet_33 (kt := fun y => absurd y w4) (kf := fun _ => kb_11_readSet_40 ⟨rfl, F1.kr.tr w2, w1⟩)
  | some v =>
  obtain ⟨v1, v2, v3⟩ := pa_v_lt ev
  have hn3 := c1.1
  obtain ⟨x, hx⟩ : ∃ x, x = 3 * (pP_K (pQ_p q) - 1) + v := ⟨_, rfl⟩
  show am_T true ya_11_readSet (d + 9) (fun r τ => r = none ∧ mo_XF σ τ ∧ rl_R (if pP_g (pQ_p q) (3 * (pP_K (pQ_p q) - 1) + v) = true then .inl (3, (tk_s tc n (i + 1)).2.1)
      else if ¬ (tk_s tc n (i + 2)).1 = 61 then .inl (1, (tk_s tc n (i + 2)).2.1)
      else match pa_sm (tk_s tc n) (pP_nv (pQ_p q)) (pQ_nm q) 1 12 (i + 3) 1 (fun _ => 0) with
        | .inl e => .inl e
        | .inr y => .inr (y.1, pq_s q (3 * (pP_K (pQ_p q) - 1) + v) y.2)) tc n l τ) _ _ _ _
  rw [← hx]
  refine kb_11_readSet_22 (kf := fun y => absurd (by rw [← ev, hE] at y; exact y) (by rw [ev]; simp)) (kt := fun _ => ?_)
  refine kb_11_readSet_33 (kf := fun y => absurd K1.2.2 y) (kt := fun _ => ?_)
  obtain ⟨to, hto⟩ : ∃ to, to = 30 + 17 * (pP_K (pQ_p q) - 1) + 2 + 5 * v := ⟨_, rfl⟩
  have et : ((30 + (17 * (am_A τ1' 16 4 3 - 1))) + 2) + (5 * am_oI (-1) (some v)) = nI to := by
    rw [F1.a4, w3', show pP_K (pQ_p q) = (pP_K (pQ_p q) - 1) + 1 by omega, nI_pred, show (17 : Int32) = nI 17 from rfl, nI_mul, show (30 : Int32) = nI 30 from rfl, nI_add, show (2 : Int32) = nI 2 from rfl, nI_add]
    show _ + 5 * nI v = _
    rw [show (5 : Int32) = nI 5 from rfl, nI_mul, nI_add, hto]
  have cl : (nI to).toNatClampNeg = to := nI_clamp (by omega)
  have vi : vp_in (nI to) 1300 := vp_in_nI (by omega) (by decide)
  obtain ⟨-, -, f3⟩ := b1.2.2.2.2.1 (pP_K (pQ_p q) - 1) (by omega)
  have f3v := f3 v (by omega)
  rw [← hto, ← hx] at f3v
  have eg : am_A τ1' 16 4 to = am_bI (pP_g (pQ_p q) x) := by rw [F1.a4]; exact f3v.1
  /- behind a fault that a set tells -/
  have behind : ∀ {τ : am_St} {res : pa_F ⊕ (Nat × pa_Q)} {a1 : Option Value}, ¬ am_I τ 16 12 = 0 → mo_XF σ τ → rl_R res tc n l τ → (∃ e, res = .inl e) → am_T true ya_11_readSet (d + 9) (fun r τ => r = none ∧ mo_XF σ τ ∧ rl_R res tc n l τ) 101 [some (.ref (am_oid 16)), a1, some (.int (nI to))] [] τ := fun {τ res a1} hz F hr he => by
    obtain ⟨e, rfl⟩ := he
    refine kb_11_readSet_101 (hC := sp_11_goOn_f hz) (k := fun r υ hr' => ?_)
    obtain ⟨rfl, rfl⟩ := hr'
    refine kb_11_readSet_105 (hC := sp_11_readSum_f hz _ _) (k := fun r υ' hr' => ?_)
    obtain ⟨rfl, rfl⟩ := hr'
    exact kb_11_readSet_113 (hi0 := vi) (hq := ⟨rfl, F.sA (by rfl) _, hr⟩)
  cases cg : pP_g (pQ_p q) x with
  | true =>
    rw [if_pos rfl]
    refine kb_11_readSet_41 (hi0 := by rw [et]; exact vi) (kt := fun y => absurd y (by rw [et, cl, eg, cg]; decide)) (kf := fun _ => ?_)
    rw [et]
    refine kb_11_readSet_71 (hC := sp_11_wrong_0 K1.2.2 3) (k := fun r υ hr => ?_)
    obtain ⟨rfl, hυ⟩ := hr
    obtain ⟨w1, w2, w3, w4⟩ := wr K1 (Or.inr (Or.inr rfl)) υ hυ
    refine kb_11_readSet_76 (hC := sp_11_goOn_f w4) (k := fun r υ2 hr => ?_)
    obtain ⟨rfl, rfl⟩ := hr
    exact kb_11_readSet_80 (kf := fun y => absurd y w4) (kt := fun _ => behind w4 (F1.kr.tr w2) w1 ⟨_, rfl⟩)
  | false =>
  rw [if_neg (by decide)]
  refine kb_11_readSet_41 (hi0 := by rw [et]; exact vi) (kf := fun y => absurd (by rw [et, cl, eg, cg]; rfl) y) (kt := fun _ => ?_)
  rw [et]
  refine kb_11_readSet_76 (hC := sp_11_goOn_0 (d := d + 2) K1) (k := fun r τ2 hr => ?_)
  obtain ⟨rfl, F2, K2⟩ := hr
  have F12 := F1.kr.tr F2.kr
  have e12 : am_A τ2 16 4 = am_A σ 16 4 := F2.a4.trans F1.a4
  refine kb_11_readSet_80 (kt := fun y => absurd K2.2.2 y) (kf := fun _ => ?_)
  refine kb_11_readSet_87 (hC := sp_11_isSign_0 (c := 61) K2 (by decide) (by decide)) (k := fun r τ2' hr => ?_)
  obtain ⟨rfl, rfl⟩ := hr
  have cc : (tk_s tc n (i + 1 + 1)) = tk_s tc n (i + 2) := rfl
  by_cases c2 : (tk_s tc n (i + 2)).1 = 61
  · rw [if_neg (fun y => y c2), cc, decide_eq_true c2]
    refine kb_11_readSet_93 (kf := fun y => absurd y (by decide)) (kt := fun _ => ?_)
    refine kb_11_readSet_101 (hC := sp_11_goOn_0 (d := d + 2) K2) (k := fun r τ3 hr => ?_)
    obtain ⟨rfl, F3, K3⟩ := hr
    have F13 := F12.tr F3.kr
    have e13 : am_A τ3 16 4 = am_A σ 16 4 := F3.a4.trans e12
    have ff : rw_f (to + 1) (fun _ => 0) τ3 := fun j hj => by
      rw [e13]
      have := f3v.2 j hj
      rw [cg] at this
      exact this
    refine kb_11_readSet_105 (hC := by rw [nI_1]; exact sp_11_readSum_0 (d := d) 1 K3 ((N1.kf F2).kf F3) (by omega) (by omega) ff) (k := fun r τ4 hr => ?_)
    obtain ⟨rfl, F4, o4, hr⟩ := hr
    have F14 := F13.tr F4
    refine kb_11_readSet_113 (hi0 := vi) (hq := ?_)
    rw [cl]
    cases ex : pa_sm (tk_s tc n) (pP_nv (pQ_p q)) (pQ_nm q) 1 12 (i + 3) 1 (fun _ => 0) with
    | inl e =>
      have ex' : pa_sm (tk_s tc n) (pP_nv (pQ_p q)) (pQ_nm q) 1 12 (i + 1 + 1 + 1) 1 (fun _ => 0) = .inl e := ex
      rw [ex'] at hr
      exact ⟨rfl, F14.sA (by rfl) _, hr⟩
    | inr y =>
      have ex' : pa_sm (tk_s tc n) (pP_nv (pQ_p q)) (pQ_nm q) 1 12 (i + 1 + 1 + 1) 1 (fun _ => 0) = .inr y := ex
      rw [ex'] at hr
      obtain ⟨K4, f4⟩ := hr
      obtain ⟨W', hW'⟩ : ∃ W', W' = upd (am_A τ4 16 4) to 1 := ⟨_, rfl⟩
      rw [← hW']
      have AW : am_A (am_sA τ4 16 4 W') 16 4 = W' := by rw [am_A_sA, if_pos ⟨rfl, rfl⟩]
      have Ws : ∀ k, ¬ (to ≤ k ∧ k < to + 5) → W' k = am_A σ 16 4 k := fun k a => by rw [hW', upd_n (by omega), o4 k (by omega), e13]
      have F5 : mo_XF σ (am_sA τ4 16 4 W') := F14.sA (by rfl) _
      refine ⟨rfl, F5, K4.sA, ?_, ⟨?_, fun a ha => ?_⟩, hB.N F5 (by rw [AW]; exact Ws 0 (by omega)), (F5.1 16 rfl).trans (b4.trans ?_), b5, by rw [AW]; exact (Ws 6 (by omega)).trans b6⟩
      · rw [AW]
        refine b1.set hk z (by omega) hx hto (fun k _ a => Ws k a) (by rw [hW', upd_s]) (fun j hj => ?_)
        rw [hW', upd_n (by omega)]; exact f4 j hj
      · rw [AW, Ws 5 (by omega)]; exact b2.1
      · rw [AW, Ws _ (by omega)]
        refine ⟨(b2.2 a ha).1, fun j hj => ?_⟩
        rw [Ws _ (by omega)]; exact (b2.2 a ha).2 j hj
      · show (1 : Int32) = am_bI (pQ_ho q)
        rw [b5 z]; rfl
  · rw [if_pos c2, cc, decide_eq_false c2]
    refine kb_11_readSet_93 (kt := fun y => absurd rfl y) (kf := fun _ => kb_11_readSet_96 (hC := sp_11_wrong_0 K2.2.2 1) (k := fun r υ hr => ?_))
    obtain ⟨rfl, hυ⟩ := hr
    obtain ⟨w1, w2, w3, w4⟩ := wr K2 (Or.inl rfl) υ hυ
    exact behind w4 (F12.tr w2) w1 ⟨_, rfl⟩
theorem rl_var (h : rr_K σ tc n i) (hP : rq_P σ q l) (hk : pq_ok q) : am_C true ya_11_readVar (d + 8) [.ref (am_oid 16)] σ (fun r τ => r = none ∧ mo_LX σ τ ∧ rl_R (pl_var (tk_s tc n) q i) tc n l τ) := by
  have hk' := hk
  obtain ⟨⟨⟨c1, c2, c3, c4⟩, n1, n2, n3, n4⟩, -⟩ := hk'
  obtain ⟨b1, b2, b3, b4, b5, b6⟩ := hP
  have w0' : am_A σ 16 4 0 = nI (pP_nv (pQ_p q)) := b1.1.1
  refine am_enter rfl (by simp [Value.category]) (Nat.le_of_ble_eq_true rfl) ?_
  have wr : ∀ {τ : am_St} {k f : Nat}, rr_K τ tc n k → f = 1 ∨ f = 2 ∨ f = 3 → ∀ υ, υ = am_sI (am_sI τ 16 12 (nI f)) 16 13 (am_I τ 16 8) → rl_R (.inl (f, (tk_s tc n k).2.1)) tc n l υ ∧ mo_XF τ υ ∧ (∀ j, am_A υ 16 j = am_A τ 16 j) ∧ ¬ am_I υ 16 12 = 0 := fun {τ k f} hK hf υ hυ => by
    rw [hK.2.1.2.1] at hυ
    have := rr_w (σ := τ) (X := Nat × pa_Q) (ok := fun x τ => rr_K τ tc n x.1 ∧ rq_P τ x.2 l) (k := f) (w := (tk_s tc n k).2.1) hf
    rw [← hυ] at this
    exact this
  have so : ∀ {τ : am_St} (d : Nat), am_A τ 16 4 = am_A σ 16 4 → am_C true ya_11_statesOf d [.ref (am_oid 16), .ref (am_aid 16 4)] τ (fun r ω => ω = τ ∧ r = some (.int (nI (pQ_N q)))) := fun {τ} d e => by
    have := sp_11_statesOf (d := d) (σ := τ) (kr := 4) (lo := pP_lo (pQ_p q)) (wd := pP_wd (pQ_p q)) rfl c1 (by rw [e]; exact w0') (by rw [e]; exact b1.2.1)
    rw [c3]; exact this
  /- behind a fault: where the bounds are read -/
  have beh2 : ∀ {τ : am_St} {res : pa_F ⊕ (Nat × pa_Q)} {a1 a3 : Option Value} {w2 s0 : Int32}, ¬ am_I τ 16 12 = 0 → mo_XF σ τ → am_A τ 16 4 = am_A σ 16 4 → rl_R res tc n l τ → am_T true ya_11_readVar (d + 8) (fun r τ => r = none ∧ mo_LX σ τ ∧ rl_R res tc n l τ) 97 [some (.ref (am_oid 16)), a1, some (.int w2), a3, none] [.int s0] τ := fun {τ res a1 a3 w2 s0} hz F e hr => by
    refine kb_11_readVar_97 (hC := so _ e) (k := fun r υ h' => ?_)
    obtain ⟨rfl, rfl⟩ := h'
    refine kb_11_readVar_108 (hC := sp_11_bound_f hz _ _) (k := fun r υ' h' => ?_)
    obtain ⟨rfl, rfl⟩ := h'
    exact kb_11_readVar_111 (kt := fun y => absurd y hz) (kf := fun _ => kb_11_readVar_120 ⟨rfl, F.xl, hr⟩)
  have beh1 : ∀ {τ : am_St} {res : pa_F ⊕ (Nat × pa_Q)} {a1 : Option Value}, ¬ am_I τ 16 12 = 0 → mo_XF σ τ → am_A τ 16 4 = am_A σ 16 4 → rl_R res tc n l τ → am_T true ya_11_readVar (d + 8) (fun r τ => r = none ∧ mo_LX σ τ ∧ rl_R res tc n l τ) 74 [some (.ref (am_oid 16)), a1, none, none, none] [] τ := fun {τ res a1} hz F e hr => by
    refine kb_11_readVar_74 (hC := sp_11_goOn_f hz) (k := fun r υ h' => ?_)
    obtain ⟨rfl, rfl⟩ := h'
    refine kb_11_readVar_83 (hC := sp_11_bound_f hz _ _) (k := fun r υ' h' => ?_)
    obtain ⟨rfl, rfl⟩ := h'
    exact beh2 hz F e hr
  have beh0 : ∀ {τ : am_St} {res : pa_F ⊕ (Nat × pa_Q)}, ¬ am_I τ 16 12 = 0 → mo_XF σ τ → am_A τ 16 4 = am_A σ 16 4 → rl_R res tc n l τ → am_T true ya_11_readVar (d + 8) (fun r τ => r = none ∧ mo_LX σ τ ∧ rl_R res tc n l τ) 61 [some (.ref (am_oid 16)), none, none, none, none] [] τ := fun {τ res} hz F e hr => by
    refine kb_11_readVar_61 (hC := sp_11_variable_f hz) (k := fun r υ h' => ?_)
    obtain ⟨rfl, rfl⟩ := h'
    exact kb_11_readVar_65 (kf := fun y => absurd rfl y) (kt := fun _ => beh1 hz F e hr)
  have beh : ∀ {τ : am_St} {res : pa_F ⊕ (Nat × pa_Q)}, ¬ am_I τ 16 12 = 0 → mo_XF σ τ → am_A τ 16 4 = am_A σ 16 4 → rl_R res tc n l τ → am_T true ya_11_readVar (d + 8) (fun r τ => r = none ∧ mo_LX σ τ ∧ rl_R res tc n l τ) 30 [some (.ref (am_oid 16)), none, none, none, none] [] τ := fun {τ res} hz F e hr => by
    refine kb_11_readVar_30 (hC := sp_11_goOn_f hz) (k := fun r υ h' => ?_)
    obtain ⟨rfl, rfl⟩ := h'
    exact kb_11_readVar_34 (kf := fun y => absurd y hz) (kt := fun _ => beh0 hz F e hr)
  unfold pl_var
  cases eh : pQ_ho q with
  | true =>
    rw [if_pos rfl]
    refine kb_11_readVar_0 (kt := fun y => absurd y (by rw [b4, eh]; decide)) (kf := fun _ => ?_)
    refine kb_11_readVar_7 (hC := sp_11_wrong_0 h.2.2 1) (k := fun r υ hr => ?_)
    obtain ⟨rfl, hυ⟩ := hr
    obtain ⟨w1, w2, w3, w4⟩ := wr h (Or.inl rfl) υ hυ
    exact kb_11_readVar_12 (k := beh w4 w2 (w3 4) w1)
  | false =>
  rw [if_neg (by decide)]
  refine kb_11_readVar_0 (kf := fun y => absurd (by rw [b4, eh]; rfl) y) (kt := fun _ => ?_)
  by_cases d3 : 3 ≤ pP_nv (pQ_p q)
  · have e3 : pP_nv (pQ_p q) = 3 := by omega
    rw [if_pos d3]
    refine kb_11_readVar_15 (kt := fun y => absurd (by rw [w0', e3]; rfl) y) (kf := fun _ => ?_)
    refine kb_11_readVar_25 (hC := sp_11_wrong_0 h.2.2 2) (k := fun r υ hr => ?_)
    obtain ⟨rfl, hυ⟩ := hr
    obtain ⟨w1, w2, w3, w4⟩ := wr h (Or.inr (Or.inl rfl)) υ hυ
    exact beh w4 w2 (w3 4) w1
  rw [if_neg d3]
  refine kb_11_readVar_15 (kf := fun y => absurd (nI_inj (by omega) (by decide) (show nI (pP_nv (pQ_p q)) = nI 3 by rw [w0'] at y; exact y)) (by omega)) (kt := fun _ => ?_)
  refine kb_11_readVar_30 (hC := sp_11_goOn_0 (d := d + 1) h) (k := fun r τ1 hr => ?_)
  obtain ⟨rfl, F1, K1⟩ := hr
  have N1 := b3.kf F1
  have t3 := K1.2.1.2.2.1
  have hB1 := (tk_s_B (tc := tc) h.1.1 (i + 1)).2.2
  refine kb_11_readVar_34 (kt := fun y => absurd K1.2.2 y) (kf := fun _ => ?_)
  have bad : am_T true ya_11_readVar (d + 8) (fun r τ => r = none ∧ mo_LX σ τ ∧ rl_R (.inl (1, (tk_s tc n (i + 1)).2.1)) tc n l τ) 56 [some (.ref (am_oid 16)), none, none, none, none] [] τ1 := by
    refine kb_11_readVar_56 (hC := sp_11_wrong_0 K1.2.2 1) (k := fun r υ hr => ?_)
    obtain ⟨rfl, hυ⟩ := hr
    obtain ⟨w1, w2, w3, w4⟩ := wr K1 (Or.inl rfl) υ hυ
    exact beh0 w4 (F1.kr.tr w2) ((w3 4).trans F1.a4) w1
  by_cases d4 : ¬ (tk_s tc n (i + 1)).1 = 1 ∨ pa_lg (tk_s tc n (i + 1)).2.2.2 = true
  · rw [if_pos d4]
    by_cases d5 : (tk_s tc n (i + 1)).1 = 1
    · have d6 : pa_lg (tk_s tc n (i + 1)).2.2.2 = true := d4.elim (fun y => absurd d5 y) (fun y => y)
      have t10 := (K1.2.1.2.2.2.1 d5).1
      refine kb_11_readVar_41 (kt := fun y => absurd (by rw [t3, rs_k_0]; exact d5) y) (kf := fun _ => kb_11_readVar_48 (kt := fun y => absurd (by rw [t10, wh_n_lg] at y; exact y) (by rw [d6]; decide)) (kf := fun _ => bad))
    · exact kb_11_readVar_41 (kf := fun y => absurd (by rw [t3, rs_k_0] at y; exact y) d5) (kt := fun _ => bad)
  rw [if_neg d4]
  have d5 : (tk_s tc n (i + 1)).1 = 1 := Decidable.byContradiction (fun y => d4 (Or.inl y))
  have d6 : pa_lg (tk_s tc n (i + 1)).2.2.2 = false := by
    cases e : pa_lg (tk_s tc n (i + 1)).2.2.2 with
    | false => rfl
    | true => exact absurd (Or.inr e) d4
  obtain ⟨t10, t11⟩ := K1.2.1.2.2.2.1 d5
  refine kb_11_readVar_41 (kt := fun y => absurd (by rw [t3, rs_k_0]; exact d5) y) (kf := fun _ => kb_11_readVar_48 (kf := fun y => absurd (by rw [t10, wh_n_lg]; exact d6) y) (kt := fun _ => ?_))
  refine kb_11_readVar_61 (hC := sp_11_variable_0 K1 N1) (k := fun r τ1' hr => ?_)
  obtain ⟨rfl, rfl⟩ := hr
  have hE := pa_oI_m (rr_vb (nm := pQ_nm q) (tc := tc) (n := n) (i := i + 1) N1.2.1)
  cases ev : pa_v (pP_nv (pQ_p q)) (pQ_nm q) (tk_s tc n (i + 1)) with
  | some v =>
    rw [if_pos (show (some v).isSome = true from rfl)]
    refine kb_11_readVar_65 (kt := fun y => absurd (by rw [← ev, hE] at y; exact y) (by rw [ev]; simp)) (kf := fun _ => ?_)
    refine kb_11_readVar_69 (hC := sp_11_wrong_0 K1.2.2 3) (k := fun r υ hr => ?_)
    obtain ⟨rfl, hυ⟩ := hr
    obtain ⟨w1, w2, w3, w4⟩ := wr K1 (Or.inr (Or.inr rfl)) υ hυ
    exact beh1 w4 (F1.kr.tr w2) ((w3 4).trans F1.a4) w1
  | none =>
  rw [if_neg (by simp)]
  refine kb_11_readVar_65 (kf := fun y => absurd rfl y) (kt := fun _ => ?_)
  refine kb_11_readVar_74 (hC := sp_11_goOn_0 (d := d + 1) K1) (k := fun r τ2 hr => ?_)
  obtain ⟨rfl, F2, K2⟩ := hr
  have F12 := F1.kr.tr F2.kr
  have e12 : am_A τ2 16 4 = am_A σ 16 4 := F2.a4.trans F1.a4
  rw [t11]
  refine kb_11_readVar_83 (hC := by rw [show ((-20 : Int32)) = iI (-20) from by decide, show (0 : Int32) = nI 0 from rfl]; exact sp_11_bound_0 (d := d) (N := 0) K2 ⟨Int.le_refl _, by decide⟩ (by decide)) (k := fun r τ3 hr => ?_)
  obtain ⟨F3, e3, ⟨s0, rfl⟩, hr⟩ := hr
  have F13 := F12.tr F3
  have e13 : am_A τ3 16 4 = am_A σ 16 4 := e3.trans e12
  have eb1 : pa_bd (tk_s tc n) (-20) 0 (i + 1 + 1) = pa_sn (tk_s tc n) (-20) (i + 2) := by
    show pa_bd (tk_s tc n) (-20) 0 (i + 2) = _
    unfold pa_bd
    cases pa_sn (tk_s tc n) (-20) (i + 2) with
    | inl e => rfl
    | inr x => exact if_neg (by rw [Nat.zero_mul]; decide)
  rw [eb1] at hr
  rw [show am_A τ2 16 4 0 = nI (pP_nv (pQ_p q)) from by rw [e12]; exact w0']
  cases ex : pa_sn (tk_s tc n) (-20) (i + 2) with
  | inl e =>
    rw [ex] at hr
    exact beh2 (rr_f (pa_sn_e ex) hr) F13 e13 hr
  | inr x =>
  rw [ex] at hr
  obtain ⟨K3, hs⟩ := hr
  cases hs
  obtain ⟨p1, p2, p3⟩ := pa_sn_gt ex
  refine kb_11_readVar_97 (hC := so _ e13) (k := fun r τ3' h' => ?_)
  obtain ⟨rfl, rfl⟩ := h'
  refine kb_11_readVar_108 (hC := sp_11_bound_0 (d := d) K3 ⟨p2, p3⟩ c4) (k := fun r τ4 hr => ?_)
  obtain ⟨F4, e4, ⟨s1, rfl⟩, hr⟩ := hr
  have F14 := F13.tr F4
  have e14 : am_A τ4 16 4 = am_A σ 16 4 := e4.trans e13
  show am_T true ya_11_readVar (d + 8) (fun r τ => r = none ∧ mo_LX σ τ ∧ rl_R (match pa_sn (tk_s tc n) x.2 x.1 with
      | .inl e => .inl e
      | .inr y => if 600 < pQ_N q * (y.2 - x.2 + 1).toNat then .inl (2, (tk_s tc n x.1).2.1) else .inr (y.1, pq_v q (tk_s tc n (i + 1)).2.2.2 x.2 y.2)) tc n l τ) _ _ _ _
  have eb2 : pa_bd (tk_s tc n) x.2 (pQ_N q) x.1 = match pa_sn (tk_s tc n) x.2 x.1 with
      | .inl e => .inl e
      | .inr y => if 600 < pQ_N q * (y.2 - x.2 + 1).toNat then .inl (2, (tk_s tc n x.1).2.1) else .inr y := rfl
  rw [eb2] at hr
  cases ey : pa_sn (tk_s tc n) x.2 x.1 with
  | inl e =>
    rw [ey] at hr
    exact kb_11_readVar_111 (kt := fun y => absurd y (rr_f (pa_sn_e ey) hr)) (kf := fun _ => kb_11_readVar_120 ⟨rfl, F14.xl, hr⟩)
  | inr y =>
  rw [ey] at hr
  obtain ⟨p4, p5, p6⟩ := pa_sn_gt ey
  show am_T true ya_11_readVar (d + 8) (fun r τ => r = none ∧ mo_LX σ τ ∧ rl_R (if 600 < pQ_N q * (y.2 - x.2 + 1).toNat then .inl (2, (tk_s tc n x.1).2.1) else .inr (y.1, pq_v q (tk_s tc n (i + 1)).2.2.2 x.2 y.2)) tc n l τ) _ _ _ _
  by_cases d7 : 600 < pQ_N q * (y.2 - x.2 + 1).toNat
  · have hr' : rr_R (if 600 < pQ_N q * (y.2 - x.2 + 1).toNat then .inl (2, (tk_s tc n x.1).2.1) else .inr y) (fun x τ => rr_K τ tc n x.1 ∧ some (Value.int s1) = some (.int (iI x.2))) τ4 := hr
    rw [if_pos d7] at hr' ⊢
    exact kb_11_readVar_111 (kt := fun z => absurd z (rr_f pa_E2 hr')) (kf := fun _ => kb_11_readVar_120 ⟨rfl, F14.xl, hr'⟩)
  · have hr' : rr_R (if 600 < pQ_N q * (y.2 - x.2 + 1).toNat then .inl (2, (tk_s tc n x.1).2.1) else .inr y) (fun x τ => rr_K τ tc n x.1 ∧ some (Value.int s1) = some (.int (iI x.2))) τ4 := hr
    rw [if_neg d7] at hr' ⊢
    obtain ⟨K4, hs1⟩ := hr'
    cases hs1
    obtain ⟨nv, hnv⟩ : ∃ nv, nv = pP_nv (pQ_p q) := ⟨_, rfl⟩
    have e8 : (8 : Int32) + 2 * nI nv = nI (8 + 2 * nv) := by rw [show (2 : Int32) = nI 2 from rfl, nI_mul, show (8 : Int32) = nI 8 from rfl, nI_add]
    have cl : (nI nv).toNatClampNeg = nv := nI_clamp (by omega)
    have cl8 : (nI (8 + 2 * nv)).toNatClampNeg = 8 + 2 * nv := nI_clamp (by omega)
    have cl9 : (nI (8 + 2 * nv + 1)).toNatClampNeg = 8 + 2 * nv + 1 := nI_clamp (by omega)
    rw [← hnv]
    refine kb_11_readVar_111 (kf := fun z => absurd K4.2.2 z) (kt := fun _ => kb_11_readVar_121 (hi0 := vp_in_nI (by omega) (by decide)) (hi1 := by rw [e8]; exact vp_in_nI (by omega) (by decide)) (hi2 := by rw [e8, nI_1]; exact vp_in_nI (by omega) (by decide)) (hq := ?_))
    rw [e8, nI_1, cl, cl8, cl9]
    have u0 : upd (upd (am_A τ4 16 4) (8 + 2 * nv) (iI x.2)) (8 + 2 * nv + 1) (iI y.2) 0 = nI nv := by rw [upd_n (by omega), upd_n (by omega), e14, hnv]; exact w0'
    rw [u0, nI_1, am_sA_sA, am_sA_sA]
    obtain ⟨W', hW'⟩ : ∃ W', W' = upd (upd (upd (am_A τ4 16 4) (8 + 2 * nv) (iI x.2)) (8 + 2 * nv + 1) (iI y.2)) 0 (nI (nv + 1)) := ⟨_, rfl⟩
    obtain ⟨V', hV'⟩ : ∃ V', V' = upd (am_A τ4 16 5) nv (nI (ph 6 (tk_s tc n (i + 1)).2.2.2)) := ⟨_, rfl⟩
    rw [← hW', ← hV']
    have AW : am_A (am_sA (am_sA τ4 16 5 V') 16 4 W') 16 4 = W' := by rw [am_A_sA, if_pos ⟨rfl, rfl⟩]
    have AV : am_A (am_sA (am_sA τ4 16 5 V') 16 4 W') 16 5 = V' := by rw [am_A_sA, if_neg (by simp), am_A_sA, if_pos ⟨rfl, rfl⟩]
    have Ws : ∀ k, k ≠ 0 → k ≠ 8 + 2 * nv → k ≠ 8 + 2 * nv + 1 → W' k = am_A σ 16 4 k := fun k a b c => by rw [hW', upd_n a, upd_n c, upd_n b, e14]
    have F5 : mo_LX σ (am_sA (am_sA τ4 16 5 V') 16 4 W') := (F14.xl.sA (by rfl) _).sA (by rfl) _
    refine ⟨rfl, F5, ⟨K4.1.cg rfl (by rw [am_A_sA, if_neg (by simp), am_A_sA, if_neg (by simp)]), K4.2.1, K4.2.2⟩, ?_, ⟨?_, fun a ha => ?_⟩, ⟨?_, ?_, fun v hv => ?_⟩, ?_, b5, ?_⟩
    · rw [AW]
      rw [hnv] at Ws
      exact b1.var hk (by omega) p5 (fun k _ a b c => Ws k a b c) (by rw [hW', upd_s, hnv]) (by rw [← hnv, hW', upd_n (by omega), upd_n (by omega), upd_s]) (by rw [← hnv, hW', upd_n (by omega), upd_s])
    · rw [AW, Ws 5 (by omega) (by omega) (by omega)]; exact b2.1
    · rw [AW, Ws _ (by omega) (by omega) (by omega)]
      refine ⟨(b2.2 a ha).1, fun j hj => ?_⟩
      rw [Ws _ (by omega) (by omega) (by omega)]; exact (b2.2 a ha).2 j hj
    · rw [AW, hW', upd_s, hnv]; rfl
    · show pP_nv (pQ_p q) + 1 ≤ 3; omega
    · have hv' : v < pP_nv (pQ_p q) + 1 := hv
      rw [AV, hV']
      show upd (am_A τ4 16 5) nv _ v = nI (ph 6 (up1 (pQ_nm q) (pP_nv (pQ_p q)) (tk_s tc n (i + 1)).2.2.2 v)) ∧ up1 (pQ_nm q) (pP_nv (pQ_p q)) (tk_s tc n (i + 1)).2.2.2 v < 387420489 ∧ pa_lg (up1 (pQ_nm q) (pP_nv (pQ_p q)) (tk_s tc n (i + 1)).2.2.2 v) = false
      by_cases z : v = pP_nv (pQ_p q)
      · rw [z, up1_s, hnv, upd_s]; exact ⟨rfl, hB1, d6⟩
      · rw [up1_n z, hnv, upd_n z, F14.2 5 rfl]; exact b3.2.2 v (by omega)
    · exact (F14.1 16 rfl).trans b4
    · rw [AW]; exact (Ws 6 (by omega) (by omega) (by omega)).trans b6
end MTEXT
