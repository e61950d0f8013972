/-! the reference reads terms, sums, bounds -/
section MSUMS
variable {d n i nv : Nat} {tc nm : Nat → Nat} {σ : am_St}
/-- in the row fresh nothing has changed but what lies from to on, four wide -/
def rw_o (to : Nat) (σ τ : am_St) : Prop := ∀ k, k < to ∨ to + 4 ≤ k → am_A τ 16 4 k = am_A σ 16 4 k
theorem rw_o.rf {to : Nat} : rw_o to σ σ := fun _ _ => rfl
theorem rw_o.tr {to : Nat} {τ υ : am_St} (h : rw_o to σ τ) (h' : rw_o to τ υ) : rw_o to σ υ := fun k hk => (h' k hk).trans (h k hk)
theorem rw_o.of {to : Nat} {τ : am_St} (h : am_A τ 16 4 = am_A σ 16 4) : rw_o to σ τ := fun k _ => by rw [h]
def rw_f (to : Nat) (f : Nat → Int32) (τ : am_St) : Prop := ∀ j, j < 4 → am_A τ 16 4 (to + j) = f j
theorem mo_Fm.a4 {τ : am_St} (h : mo_KF σ τ) : am_A τ 16 4 = am_A σ 16 4 := h.2 4 rfl
theorem rr_N.kf {τ : am_St} (h : rr_N σ nv nm) (F : mo_KF σ τ) : rr_N τ nv nm := h.cg (by rw [F.a4]) (F.2 5 rfl)
theorem sp_11_readTerm_f (h : ¬ am_I σ 16 12 = 0) (to sg : Int32) : am_C true ya_11_readTerm (d + 2) [.ref (am_oid 16), .int to, .int sg] σ (fun r τ => r = none ∧ τ = σ) := by
  refine am_enter rfl (by simp [Value.category]) (Nat.le_of_ble_eq_true rfl) ?_
  refine kb_11_readTerm_0 (kf := fun z => absurd z h) (kt := fun _ => kb_11_readTerm_21 (k := kb_11_readTerm_22 (kf := fun z => absurd rfl z) (kt := fun _ => ?_)))
  refine kb_11_readTerm_85 (hC := sp_11_variable_f h) (k := fun r τ hr => ?_)
  obtain ⟨rfl, rfl⟩ := hr
  refine kb_11_readTerm_89 (kt := fun z => absurd rfl z) (kf := fun _ => ?_)
  refine kb_11_readTerm_97 (hC := sp_11_wrong_f h 1) (k := fun r τ' hr => ?_)
  obtain ⟨rfl, rfl⟩ := hr
  refine kb_11_readTerm_102 (hC := sp_11_goOn_f h) (k := fun r τ' hr => ?_)
  obtain ⟨rfl, rfl⟩ := hr
  exact kb_11_readTerm_106 (kf := fun z => absurd z h) (kt := fun _ => kb_11_readTerm_130 ⟨rfl, rfl⟩)
theorem sp_11_readTerm_0 {to : Nat} {f : Nat → Int32} (sg : Int32) (h : rr_K σ tc n i) (hN : rr_N σ nv nm) (ht : 1 ≤ to) (ht2 : to + 4 ≤ 1300) (hf : rw_f to f σ) : am_C true ya_11_readTerm (d + 7) [.ref (am_oid 16), .int (nI to), .int sg] σ (fun r τ => r = none ∧ mo_XF σ τ ∧ rw_o to σ τ ∧ rr_R (pa_tm (tk_s tc n) nv nm i sg f) (fun x τ => rr_K τ tc n x.1 ∧ rw_f to x.2 τ) τ) := by
  refine am_enter rfl (by simp [Value.category]) (Nat.le_of_ble_eq_true rfl) ?_
  /- the token at which a variable must stand -/
  have vr : ∀ (k : Nat) (x x' : Int32) (τ : am_St) (res : pa_F ⊕ (Nat × (Nat → Int32))) (w4 : Int32), sg * x = x' → rr_K τ tc n k → rr_N τ nv nm → mo_XF σ τ → am_A τ 16 4 = am_A σ 16 4 → (pa_v nv nm (tk_s tc n k) = none → res = .inl (1, (tk_s tc n k).2.1)) → (∀ v, pa_v nv nm (tk_s tc n k) = some v → res = .inr (k + 1, upd f (1 + v) (f (1 + v) + x'))) → am_T true ya_11_readTerm (d + 7) (fun r τ => r = none ∧ mo_XF σ τ ∧ rw_o to σ τ ∧ rr_R res (fun x τ => rr_K τ tc n x.1 ∧ rw_f to x.2 τ) τ) 85 [some (.ref (am_oid 16)), some (.int (nI to)), some (.int sg), some (.int x), some (.int w4), none] [] τ := by
    intro k x x' τ res w4 ex hK hNk F eA r1 r2
    refine kb_11_readTerm_85 (hC := sp_11_variable_0 hK hNk) (k := fun r τ' hr => ?_)
    obtain ⟨rfl, rfl⟩ := hr
    have hE := pa_oI_m (rr_vb (nm := nm) (tc := tc) (n := n) (i := k) hNk.2.1)
    cases e : pa_v nv nm (tk_s tc n k) with
    | none =>
      rw [r1 e]
      refine kb_11_readTerm_89 (kt := fun z => absurd rfl z) (kf := fun _ => ?_)
      refine kb_11_readTerm_97 (hC := sp_11_wrong_0 hK.2.2 1) (k := fun r υ hr => ?_)
      obtain ⟨rfl, hυ⟩ := hr
      rw [hK.2.1.2.1] at hυ
      obtain ⟨w1, w2, w3, w4⟩ := rr_w (σ := τ') (X := Nat × (Nat → Int32)) (ok := fun x τ => rr_K τ tc n x.1 ∧ rw_f to x.2 τ) (k := 1) (w := (tk_s tc n k).2.1) (Or.inl rfl)
      have hυ' : υ = am_sI (am_sI τ' 16 12 (nI 1)) 16 13 (nI (tk_s tc n k).2.1) := hυ
      rw [← hυ'] at w1 w2 w3 w4
      refine kb_11_readTerm_102 (hC := sp_11_goOn_f w4) (k := fun r υ' hr => ?_)
      obtain ⟨rfl, rfl⟩ := hr
      exact kb_11_readTerm_106 (kf := fun z => absurd z w4) (kt := fun _ => kb_11_readTerm_130 ⟨rfl, F.tr w2, rw_o.of ((w3 4).trans eA), w1⟩)
    | some v =>
      rw [r2 v e]
      obtain ⟨v1, v2, -⟩ := pa_v_lt e
      have hn3 := hNk.2.1
      refine kb_11_readTerm_89 (kf := fun z => absurd (by rw [← e, hE] at z; exact z) (by rw [e]; simp)) (kt := fun _ => ?_)
      refine kb_11_readTerm_102 (hC := sp_11_goOn_0 hK) (k := fun r υ hr => ?_)
      obtain ⟨rfl, F2, hK2⟩ := hr
      have e1 : (nI to + 1) + am_oI (-1) (some v) = nI (to + (1 + v)) := by
        show nI to + 1 + nI v = _
        rw [nI_1, nI_add]
        congr 1; omega
      have vi : vp_in ((nI to + 1) + am_oI (-1) (some v)) 1300 := by rw [e1]; exact vp_in_nI (by omega) (by decide)
      refine kb_11_readTerm_106 (kt := fun z => absurd hK2.2.2 z) (kf := fun _ => kb_11_readTerm_113 (hi0 := vi) (hi1 := vi) (k := kb_11_readTerm_130 ?_))
      rw [e1, nI_clamp (show to + (1 + v) < 2 ^ 31 by omega), ex]
      have eA2 : am_A υ 16 4 = am_A σ 16 4 := F2.a4.trans eA
      refine ⟨rfl, (F.tr F2.kr).sA (by rfl) _, fun q hq => ?_, hK2.sA, fun j hj => ?_⟩
      · rw [am_A_sA, if_pos ⟨rfl, rfl⟩, upd_n (by omega), eA2]
      · rw [am_A_sA, if_pos ⟨rfl, rfl⟩]
        show upd (am_A υ 16 4) (to + (1 + v)) _ (to + j) = upd f (1 + v) _ j
        by_cases q : j = 1 + v
        · rw [q, upd_s, upd_s, eA2, hf (1 + v) (by omega)]
        · rw [upd_n (by omega), upd_n q, eA2]; exact hf j hj
  have t3 := h.2.1.2.2.1
  by_cases q : (tk_s tc n i).1 = 2
  · obtain ⟨v, v1, v2, v3⟩ := h.2.1.2.2.2.2.1 q
    refine kb_11_readTerm_0 (kt := fun z => absurd h.2.2 z) (kf := fun _ => kb_11_readTerm_9 (kt := fun z => absurd (by rw [t3, rs_k_1]; exact q) z) (kf := fun _ => kb_11_readTerm_17 (k := kb_11_readTerm_22 (kt := fun z => absurd z (by decide)) (kf := fun _ => ?_))))
    by_cases q2 : 99 < (tk_s tc n i).2.2.2
    · have e : pa_tm (tk_s tc n) nv nm i sg f = .inl (2, (tk_s tc n i).2.1) := by unfold pa_tm; rw [if_pos q, if_pos q2]
      rw [e]
      refine kb_11_readTerm_29 (kt := fun z => absurd z (by rw [v2, show (99 : Int32) = nI 99 from rfl]; exact nI_ge (by omega) (by omega))) (kf := fun _ => ?_)
      refine kb_11_readTerm_38 (hC := sp_11_wrong_0 h.2.2 2) (k := fun r υ hr => ?_)
      obtain ⟨rfl, hυ⟩ := hr
      rw [h.2.1.2.1] at hυ
      obtain ⟨w1, w2, w3, w4⟩ := rr_w (σ := σ) (X := Nat × (Nat → Int32)) (ok := fun x τ => rr_K τ tc n x.1 ∧ rw_f to x.2 τ) (k := 2) (w := (tk_s tc n i).2.1) (Or.inr (Or.inl rfl))
      have hυ' : υ = am_sI (am_sI σ 16 12 (nI 2)) 16 13 (nI (tk_s tc n i).2.1) := hυ
      rw [← hυ'] at w1 w2 w3 w4
      refine kb_11_readTerm_43 (hC := sp_11_goOn_f w4) (k := fun r υ' hr => ?_)
      obtain ⟨rfl, rfl⟩ := hr
      refine kb_11_readTerm_52 (hC := sp_11_isSign_f w4 42) (k := fun r υ2 hr => ?_)
      obtain ⟨rfl, rfl⟩ := hr
      exact kb_11_readTerm_58 (kt := fun z => absurd rfl z) (kf := fun _ => kb_11_readTerm_61 (kf := fun z => absurd z w4) (kt := fun _ => kb_11_readTerm_80 ⟨rfl, w2, rw_o.of (w3 4), w1⟩))
    · have ev : v = (tk_s tc n i).2.2.2 := by omega
      refine kb_11_readTerm_29 (kf := fun z => absurd (by rw [v2, show (99 : Int32) = nI 99 from rfl]; exact nI_le (by omega) (by omega)) z) (kt := fun _ => ?_)
      refine kb_11_readTerm_43 (hC := sp_11_goOn_0 h) (k := fun r τ hr => ?_)
      obtain ⟨rfl, F, hK⟩ := hr
      rw [v2, ev]
      refine kb_11_readTerm_52 (hC := sp_11_isSign_0 (c := 42) hK (by decide) (by decide)) (k := fun r τ' hr => ?_)
      obtain ⟨rfl, rfl⟩ := hr
      by_cases q3 : (tk_s tc n (i + 1)).1 = 42
      · rw [decide_eq_true q3]
        refine kb_11_readTerm_58 (kf := fun z => absurd z (by decide)) (kt := fun _ => ?_)
        refine kb_11_readTerm_81 (hC := sp_11_goOn_0 hK) (k := fun r υ hr => ?_)
        obtain ⟨rfl, F2, hK2⟩ := hr
        refine vr (i + 2) _ _ υ _ _ rfl hK2 ((hN.kf F).kf F2) (F.kr.tr F2.kr) (F2.a4.trans F.a4) (fun z => ?_) (fun w z => ?_)
        · unfold pa_tm; rw [if_pos q, if_neg q2, if_pos q3, z]
        · unfold pa_tm; rw [if_pos q, if_neg q2, if_pos q3, z]
      · have e : pa_tm (tk_s tc n) nv nm i sg f = .inr (i + 1, upd f 0 (f 0 + sg * nI (tk_s tc n i).2.2.2)) := by unfold pa_tm; rw [if_pos q, if_neg q2, if_neg q3]
        rw [e, decide_eq_false q3]
        have vi : vp_in (nI to) 1300 := vp_in_nI (by omega) (by decide)
        refine kb_11_readTerm_58 (kt := fun z => absurd rfl z) (kf := fun _ => kb_11_readTerm_61 (kt := fun z => absurd hK.2.2 z) (kf := fun _ => kb_11_readTerm_68 (hi0 := vi) (hi1 := vi) (k := kb_11_readTerm_80 ?_)))
        rw [nI_clamp (show to < 2 ^ 31 by omega)]
        have eA2 : am_A τ' 16 4 = am_A σ 16 4 := F.a4
        refine ⟨rfl, F.kr.sA (by rfl) _, fun k hk => ?_, hK.sA, fun j hj => ?_⟩
        · rw [am_A_sA, if_pos ⟨rfl, rfl⟩, upd_n (by omega), eA2]
        · rw [am_A_sA, if_pos ⟨rfl, rfl⟩]
          show upd (am_A τ' 16 4) to _ (to + j) = upd f 0 _ j
          have hf0 : am_A σ 16 4 to = f 0 := hf 0 (by decide)
          by_cases q : j = 0
          · rw [q, upd_s, Nat.add_zero, upd_s, eA2, hf0]
          · rw [upd_n (by omega), upd_n q, eA2]; exact hf j hj
  · refine kb_11_readTerm_0 (kt := fun z => absurd h.2.2 z) (kf := fun _ => kb_11_readTerm_9 (kf := fun z => absurd (by rw [t3, rs_k_1] at z; exact z) q) (kt := fun _ => kb_11_readTerm_21 (k := kb_11_readTerm_22 (kf := fun z => absurd rfl z) (kt := fun _ => ?_))))
    refine vr i 1 sg σ _ _ (Int32.mul_one sg) h hN mo_Fm.rf rfl (fun z => ?_) (fun v z => ?_)
    · unfold pa_tm; rw [if_neg q, z]
    · unfold pa_tm; rw [if_neg q, z]
theorem sp_11_readSum_f (h : ¬ am_I σ 16 12 = 0) (to sg : Int32) : am_C true ya_11_readSum d [.ref (am_oid 16), .int to, .int sg] σ (fun r τ => r = none ∧ τ = σ) :=
  am_enter rfl (by simp [Value.category]) (Nat.le_of_ble_eq_true rfl) (kb_11_readSum_0 (k := kb_11_readSum_5 (kt := fun _ => kb_11_readSum_84 ⟨rfl, rfl⟩) (kf := fun z => absurd z h)))
theorem rw_o.N {to : Nat} {τ : am_St} (h : rr_N σ nv nm) (ht : 1 ≤ to) (o : rw_o to σ τ) (F : mo_XF σ τ) : rr_N τ nv nm := h.cg (o 0 (by omega)) (F.2 5 rfl)
theorem sp_11_readSum_0 {to : Nat} {f : Nat → Int32} (side : Int32) (h : rr_K σ tc n i) (hN : rr_N σ nv nm) (ht : 1 ≤ to) (ht2 : to + 4 ≤ 1300) (hf : rw_f to f σ) : am_C true ya_11_readSum (d + 8) [.ref (am_oid 16), .int (nI to), .int side] σ (fun r τ => r = none ∧ mo_XF σ τ ∧ rw_o to σ τ ∧ rr_R (pa_sm (tk_s tc n) nv nm side 12 i side f) (fun x τ => rr_K τ tc n x.1 ∧ rw_f to x.2 τ) τ) := by
  have behind : ∀ {τ : am_St} {res : pa_F ⊕ (Nat × (Nat → Int32))} {t : Int32} {a4 : Option Value}, ¬ am_I τ 16 12 = 0 → mo_XF σ τ → rw_o to σ τ → rr_R res (fun x τ => rr_K τ tc n x.1 ∧ rw_f to x.2 τ) τ → am_T true ya_11_readSum (d + 8) (fun r τ => r = none ∧ mo_XF σ τ ∧ rw_o to σ τ ∧ rr_R res (fun x τ => rr_K τ tc n x.1 ∧ rw_f to x.2 τ) τ) 39 [some (.ref (am_oid 16)), some (.int (nI to)), some (.int side), some (.int t), a4] [] τ := fun {τ res t a4} hz F o hr => by
    refine kb_11_readSum_39 (hC := sp_11_isSign_f hz 43) (k := fun r υ h' => ?_)
    obtain ⟨rfl, rfl⟩ := h'
    refine kb_11_readSum_48 (kt := fun z => absurd rfl z) (kf := fun _ => ?_)
    refine kb_11_readSum_51 (hC := sp_11_isSign_f hz 45) (k := fun r υ' h' => ?_)
    obtain ⟨rfl, rfl⟩ := h'
    exact kb_11_readSum_57 (kt := fun z => absurd rfl z) (kf := fun _ => kb_11_readSum_60 ⟨rfl, F, o, hr⟩)
  have loop : ∀ (m t k : Nat) (s sg : Int32) (g : Nat → Int32) (τ : am_St), t + m = 12 → s * side = sg → rr_K τ tc n k → rr_N τ nv nm → rw_f to g τ → mo_XF σ τ → rw_o to σ τ → am_T true ya_11_readSum (d + 8) (fun r τ => r = none ∧ mo_XF σ τ ∧ rw_o to σ τ ∧ rr_R (pa_sm (tk_s tc n) nv nm side m k sg g) (fun x τ => rr_K τ tc n x.1 ∧ rw_f to x.2 τ) τ) 5 [some (.ref (am_oid 16)), some (.int (nI to)), some (.int side), some (.int (nI t)), some (.int s)] [] τ := by
    intro m
    induction m with
    | zero =>
      intro t k s sg g τ ht0 hs hK hNk hg F o
      have : t = 12 := by omega
      subst this
      have e0 : pa_sm (tk_s tc n) nv nm side 0 k sg g = .inl (pa_no (tk_s tc n) nv nm k) := rfl
      rw [e0]
      refine kb_11_readSum_5 (kt := fun z => absurd hK.2.2 z) (kf := fun _ => kb_11_readSum_12 (kt := fun z => absurd rfl z) (kf := fun _ => ?_))
      refine kb_11_readSum_18 (hC := sp_11_isTermHere_0 hK hNk) (k := fun r υ hr => ?_)
      obtain ⟨rfl, rfl⟩ := hr
      unfold pa_no
      cases e : pa_bt (tk_s tc n) nv nm k with
      | true =>
        rw [if_pos rfl]
        refine kb_11_readSum_22 (kt := fun z => absurd z (by decide)) (kf := fun _ => ?_)
        refine kb_11_readSum_25 (hC := sp_11_wrong_0 hK.2.2 2) (k := fun r ω hr => ?_)
        obtain ⟨rfl, hω⟩ := hr
        rw [hK.2.1.2.1] at hω
        obtain ⟨w1, w2, w3, w4⟩ := rr_w (σ := υ) (X := Nat × (Nat → Int32)) (ok := fun x τ => rr_K τ tc n x.1 ∧ rw_f to x.2 τ) (k := 2) (w := (tk_s tc n k).2.1) (Or.inr (Or.inl rfl))
        have hω' : ω = am_sI (am_sI υ 16 12 (nI 2)) 16 13 (nI (tk_s tc n k).2.1) := hω
        rw [← hω'] at w1 w2 w3 w4
        refine kb_11_readSum_30 (hC := sp_11_readTerm_f w4 _ _) (k := fun r ω2 hr => ?_)
        obtain ⟨rfl, rfl⟩ := hr
        exact behind w4 (F.tr w2) (o.tr (rw_o.of (w3 4))) w1
      | false =>
        rw [if_neg (by decide)]
        refine kb_11_readSum_22 (kf := fun z => absurd rfl z) (kt := fun _ => ?_)
        refine kb_11_readSum_30 (hC := sp_11_readTerm_0 (d := d) (s * side) hK hNk ht ht2 hg) (k := fun r ω hr => ?_)
        obtain ⟨rfl, F2, o2, hr⟩ := hr
        rw [pa_tm_no e] at hr
        have hz : ¬ am_I ω 16 12 = 0 := by rw [hr.1]; exact nI_ne0 (by show 0 < 1; decide) (by show 1 < 2 ^ 31; decide)
        exact behind hz (F.tr F2) (o.tr o2) hr
    | succ m ih =>
      intro t k s sg g τ ht0 hs hK hNk hg F o
      have e1 : pa_sm (tk_s tc n) nv nm side (m + 1) k sg g = match pa_tm (tk_s tc n) nv nm k sg g with
        | .inl e => .inl e
        | .inr x => if (tk_s tc n x.1).1 = 43 then pa_sm (tk_s tc n) nv nm side m (x.1 + 1) side x.2 else if (tk_s tc n x.1).1 = 45 then pa_sm (tk_s tc n) nv nm side m (x.1 + 1) (-side) x.2 else .inr x := rfl
      refine kb_11_readSum_5 (kt := fun z => absurd hK.2.2 z) (kf := fun _ => kb_11_readSum_12 (kf := fun z => absurd (nI_inj (by omega) (by decide) (show nI t = nI 12 from z)) (by omega)) (kt := fun _ => ?_))
      subst hs
      refine kb_11_readSum_30 (hC := sp_11_readTerm_0 (d := d) (s * side) hK hNk ht ht2 hg) (k := fun r ω hr => ?_)
      obtain ⟨rfl, F2, o2, hr⟩ := hr
      have F12 := F.tr F2
      have o12 := o.tr o2
      cases ex : pa_tm (tk_s tc n) nv nm k (s * side) g with
      | inl e' =>
        have he := pa_tm_e ex
        rw [ex] at hr e1
        rw [e1]
        exact behind (by rw [hr.1]; exact nI_ne0 he.1 (Nat.lt_of_le_of_lt he.2 (by decide))) F12 o12 hr
      | inr x =>
        rw [ex] at hr e1
        obtain ⟨hK2, hg2⟩ := hr
        have hN2 : rr_N ω nv nm := rw_o.N hNk ht o2 F2
        rw [e1]
        show am_T true ya_11_readSum (d + 8) (fun r τ => r = none ∧ mo_XF σ τ ∧ rw_o to σ τ ∧ rr_R (if (tk_s tc n x.1).1 = 43 then pa_sm (tk_s tc n) nv nm side m (x.1 + 1) side x.2 else if (tk_s tc n x.1).1 = 45 then pa_sm (tk_s tc n) nv nm side m (x.1 + 1) (-side) x.2 else .inr x) (fun x τ => rr_K τ tc n x.1 ∧ rw_f to x.2 τ) τ) _ _ _ _
        refine kb_11_readSum_39 (hC := sp_11_isSign_0 (c := 43) hK2 (by decide) (by decide)) (k := fun r ω2 h' => ?_)
        obtain ⟨rfl, rfl⟩ := h'
        rw [nI_1]
        have next : ∀ (s' : Int32), am_T true ya_11_readSum (d + 8) (fun r τ => r = none ∧ mo_XF σ τ ∧ rw_o to σ τ ∧ rr_R (pa_sm (tk_s tc n) nv nm side m (x.1 + 1) (s' * side) x.2) (fun x τ => rr_K τ tc n x.1 ∧ rw_f to x.2 τ) τ) 75 [some (.ref (am_oid 16)), some (.int (nI to)), some (.int side), some (.int (nI (t + 1))), some (.int s)] [.int s'] ω2 := fun s' => by
          refine kb_11_readSum_75 (hC := sp_11_goOn_0 (d := d + 1) hK2) (k := fun r ω3 h' => ?_)
          obtain ⟨rfl, F3, hK3⟩ := h'
          exact kb_11_readSum_81 (k := ih (t + 1) (x.1 + 1) s' _ x.2 ω3 (by omega) rfl hK3 (hN2.kf F3) (fun j hj => by rw [F3.a4]; exact hg2 j hj) (F12.tr F3.kr) (o12.tr (rw_o.of F3.a4)))
        by_cases c1 : (tk_s tc n x.1).1 = 43
        · rw [if_pos c1, decide_eq_true c1]
          refine kb_11_readSum_48 (kf := fun z => absurd z (by decide)) (kt := fun _ => ?_)
          refine kb_11_readSum_61 (hC := sp_11_isSign_0 (c := 43) hK2 (by decide) (by decide)) (k := fun r ω3 h' => ?_)
          obtain ⟨rfl, rfl⟩ := h'
          rw [decide_eq_true c1]
          refine kb_11_readSum_67 (kt := fun z => absurd z (by decide)) (kf := fun _ => kb_11_readSum_70 (k := ?_))
          have := next 1
          rw [Int32.one_mul] at this
          exact this
        · rw [if_neg c1, decide_eq_false c1]
          refine kb_11_readSum_48 (kt := fun z => absurd rfl z) (kf := fun _ => ?_)
          refine kb_11_readSum_51 (hC := sp_11_isSign_0 (c := 45) hK2 (by decide) (by decide)) (k := fun r ω3 h' => ?_)
          obtain ⟨rfl, rfl⟩ := h'
          by_cases c2 : (tk_s tc n x.1).1 = 45
          · rw [if_pos c2, decide_eq_true c2]
            refine kb_11_readSum_57 (kf := fun z => absurd z (by decide)) (kt := fun _ => ?_)
            refine kb_11_readSum_61 (hC := sp_11_isSign_0 (c := 43) hK2 (by decide) (by decide)) (k := fun r ω4 h' => ?_)
            obtain ⟨rfl, rfl⟩ := h'
            rw [decide_eq_false c1]
            refine kb_11_readSum_67 (kf := fun z => absurd rfl z) (kt := fun _ => kb_11_readSum_74 (k := ?_))
            have := next (-1)
            rw [show (-1 : Int32) * side = -side from by rw [Int32.neg_mul, Int32.one_mul]] at this
            exact this
          · rw [if_neg c2, decide_eq_false c2]
            exact kb_11_readSum_57 (kt := fun z => absurd rfl z) (kf := fun _ => kb_11_readSum_60 ⟨rfl, F12, o12, hK2, hg2⟩)
  refine am_enter rfl (by simp [Value.category]) (Nat.le_of_ble_eq_true rfl) (kb_11_readSum_0 (k := ?_))
  exact loop 12 0 i 1 side f σ rfl (Int32.one_mul side) h hN hf mo_Fm.rf rw_o.rf
theorem sp_11_bound_f (h : ¬ am_I σ 16 12 = 0) (x y : Int32) : am_C true ya_11_bound d [.ref (am_oid 16), .int x, .int y] σ (fun r τ => r = some (.int 0) ∧ τ = σ) :=
  am_enter rfl (by simp [Value.category]) (Nat.le_of_ble_eq_true rfl) (kb_11_bound_0 (kf := fun _ => kb_11_bound_7 ⟨rfl, rfl⟩) (kt := fun z => absurd z h))
/-- a bound that may make too many states -/
def pa_bd (S : Nat → tk_T) (low : Int) (N i : Nat) : pa_F ⊕ (Nat × Int) := match pa_sn S low i with
  | .inl e => .inl e
  | .inr x => if 600 < N * (x.2 - low + 1).toNat then .inl (2, (S i).2.1) else .inr x
theorem sp_11_bound_0 {low : Int} {N : Nat} (h : rr_K σ tc n i) (hl : -20 ≤ low ∧ low ≤ 20) (hN : N ≤ 600) : am_C true ya_11_bound (d + 7) [.ref (am_oid 16), .int (iI low), .int (nI N)] σ (fun r τ => mo_XF σ τ ∧ am_A τ 16 4 = am_A σ 16 4 ∧ (∃ v, r = some (.int v)) ∧ rr_R (pa_bd (tk_s tc n) low N i) (fun x τ => rr_K τ tc n x.1 ∧ r = some (.int (iI x.2))) τ) := by
  have tail : ∀ (b : Bool) (k : Nat) (τ : am_St) (res : pa_F ⊕ (Nat × Int)), rr_K τ tc n k → mo_XF σ τ → am_A τ 16 4 = am_A σ 16 4 → (¬ (tk_s tc n k).1 = 2 → res = .inl (1, (tk_s tc n k).2.1)) → (∀ x : Int, x = (if b = true then -((tk_s tc n k).2.2.2 : Int) else ((tk_s tc n k).2.2.2 : Int)) → (tk_s tc n k).1 = 2 → res = if x < low ∨ 20 < x then .inl (2, (tk_s tc n i).2.1) else if 600 < N * (x - low + 1).toNat then .inl (2, (tk_s tc n i).2.1) else .inr (k + 1, x)) → am_T true ya_11_bound (d + 7) (fun r τ => mo_XF σ τ ∧ am_A τ 16 4 = am_A σ 16 4 ∧ (∃ v, r = some (.int v)) ∧ rr_R res (fun x τ => rr_K τ tc n x.1 ∧ r = some (.int (iI x.2))) τ) 31 [some (.ref (am_oid 16)), some (.int (iI low)), some (.int (nI N)), some (.int (nI (tk_s tc n i).2.1)), some (.int (am_bI b)), none] [] τ := by
    intro b k τ res hK F eA r1 r2
    have t3 := hK.2.1.2.2.1
    refine kb_11_bound_31 (kt := fun z => absurd hK.2.2 z) (kf := fun _ => ?_)
    by_cases q : (tk_s tc n k).1 = 2
    · obtain ⟨v, v1, v2, v3⟩ := hK.2.1.2.2.2.2.1 q
      refine kb_11_bound_38 (kf := fun z => absurd (by rw [t3, rs_k_1]; exact q) z) (kt := fun _ => kb_11_bound_51 (kf := fun z => absurd hK.2.2 z) (kt := fun _ => ?_))
      obtain ⟨x, hx⟩ : ∃ x : Int, x = (if b = true then -(v : Int) else (v : Int)) := ⟨_, rfl⟩
      obtain ⟨u, hu⟩ : ∃ u : Int, u = (if b = true then -((tk_s tc n k).2.2.2 : Int) else ((tk_s tc n k).2.2.2 : Int)) := ⟨_, rfl⟩
      have hr := r2 u hu q
      have xb : -100000 < x ∧ x < 100000 := by rw [hx]; split <;> omega
      /- both say the same -/
      have eq1 : (x < low ∨ 20 < x) = (u < low ∨ 20 < u) := by
        cases b with
        | true =>
          rw [if_pos rfl] at hx hu
          exact propext ⟨fun z => by omega, fun z => by omega⟩
        | false =>
          rw [if_neg (by decide)] at hx hu
          exact propext ⟨fun z => by omega, fun z => by omega⟩
      have eq2 : ¬ (x < low ∨ 20 < x) → u = x := fun z => by
        cases b with
        | true =>
          rw [if_pos rfl] at hx hu
          omega
        | false =>
          rw [if_neg (by decide)] at hx hu
          omega
      have lx : (iI x < iI low) = (x < low) := iI_lt (by omega) (by omega) (by omega) (by omega)
      have lx2 : ((20 : Int32) < iI x) = (20 < x) := by rw [show (20 : Int32) = iI 20 from by decide]; exact iI_lt (by omega) (by omega) (by omega) (by omega)
      have wrong : res = .inl (2, (tk_s tc n i).2.1) → am_T true ya_11_bound (d + 7) (fun r τ => mo_XF σ τ ∧ am_A τ 16 4 = am_A σ 16 4 ∧ (∃ v, r = some (.int v)) ∧ rr_R res (fun x τ => rr_K τ tc n x.1 ∧ r = some (.int (iI x.2))) τ) 106 [some (.ref (am_oid 16)), some (.int (iI low)), some (.int (nI N)), some (.int (nI (tk_s tc n i).2.1)), some (.int (am_bI b)), some (.int (iI x))] [] τ := fun e => by
        rw [e]
        refine kb_11_bound_106 (hC := sp_11_wrongAt_0 hK.2.2 2 _) (k := fun r υ hr => ?_)
        obtain ⟨rfl, hυ⟩ := hr
        obtain ⟨w1, w2, w3, w4⟩ := rr_w (σ := τ) (X := Nat × Int) (ok := fun x τ => rr_K τ tc n x.1 ∧ (some (Value.int (iI (0 : Int)))) = some (.int (iI x.2))) (k := 2) (w := (tk_s tc n i).2.1) (Or.inr (Or.inl rfl))
        have hυ' : υ = am_sI (am_sI τ 16 12 (nI 2)) 16 13 (nI (tk_s tc n i).2.1) := hυ
        rw [← hυ'] at w1 w2 w3 w4
        refine kb_11_bound_112 (hC := sp_11_goOn_f w4) (k := fun r υ2 hr => ?_)
        obtain ⟨rfl, rfl⟩ := hr
        exact kb_11_bound_116 ⟨F.tr w2, (w3 4).trans eA, ⟨_, rfl⟩, w1⟩
      have go : am_T true ya_11_bound (d + 7) (fun r τ => mo_XF σ τ ∧ am_A τ 16 4 = am_A σ 16 4 ∧ (∃ v, r = some (.int v)) ∧ rr_R res (fun x τ => rr_K τ tc n x.1 ∧ r = some (.int (iI x.2))) τ) 77 [some (.ref (am_oid 16)), some (.int (iI low)), some (.int (nI N)), some (.int (nI (tk_s tc n i).2.1)), some (.int (am_bI b)), none] [.int (iI x)] τ := by
        by_cases c1 : x < low ∨ 20 < x
        · have e := hr
          rw [if_pos (eq1.mp c1)] at e
          refine kb_11_bound_77 (kt := fun _ => wrong e) (kf := fun z => kb_11_bound_85 (kt := fun _ => wrong e) (kf := fun z2 => ?_))
          rw [lx] at z
          rw [lx2] at z2
          exact absurd c1 (by omega)
        · have ux := eq2 c1
          rw [ux, if_neg c1] at hr
          refine kb_11_bound_77 (kt := fun z => absurd (Or.inl (by rw [lx] at z; exact z)) c1) (kf := fun _ => kb_11_bound_85 (kt := fun z => absurd (Or.inr (by rw [lx2] at z; exact z)) c1) (kf := fun _ => ?_))
          have ew : (iI x - iI low) + 1 = nI (x - low + 1).toNat := by
            rw [iI_sub, show (1 : Int32) = iI 1 from by decide, iI_add, ← iI_n]
            congr 1; omega
          have w41 : (x - low + 1).toNat ≤ 41 := by omega
          have bd : N * (x - low + 1).toNat ≤ 600 * 41 := Nat.mul_le_mul hN w41
          have eN : nI N * ((iI x - iI low) + 1) = nI (N * (x - low + 1).toNat) := by rw [ew, nI_mul]
          by_cases c2 : 600 < N * (x - low + 1).toNat
          · rw [if_pos c2] at hr
            exact kb_11_bound_92 (kt := fun z => absurd z (by rw [eN, show (600 : Int32) = nI 600 from rfl]; exact nI_ge c2 (by omega))) (kf := fun _ => wrong hr)
          · rw [if_neg c2] at hr
            rw [hr]
            refine kb_11_bound_92 (kf := fun z => absurd (by rw [eN, show (600 : Int32) = nI 600 from rfl]; exact nI_le (by omega) (by omega)) z) (kt := fun _ => ?_)
            refine kb_11_bound_112 (hC := sp_11_goOn_0 hK) (k := fun r υ hr => ?_)
            obtain ⟨rfl, F2, hK2⟩ := hr
            exact kb_11_bound_116 ⟨F.tr F2.kr, F2.a4.trans eA, ⟨_, rfl⟩, hK2, rfl⟩
      cases b with
      | true =>
        have e : -(am_I τ 16 10) = iI x := by rw [v2, hx, ← iI_n, iI_neg]; rfl
        refine kb_11_bound_60 (kt := fun z => absurd z (by decide)) (kf := fun _ => kb_11_bound_65 (k := ?_))
        rw [e]; exact go
      | false =>
        have e : am_I τ 16 10 = iI x := by rw [v2, hx, ← iI_n]; rfl
        refine kb_11_bound_60 (kf := fun z => absurd rfl z) (kt := fun _ => kb_11_bound_73 (k := ?_))
        rw [e]; exact go
    · rw [r1 q]
      refine kb_11_bound_38 (kt := fun z => absurd (by rw [t3, rs_k_1] at z; exact z) q) (kf := fun _ => ?_)
      refine kb_11_bound_46 (hC := sp_11_wrong_0 hK.2.2 1) (k := fun r υ hr => ?_)
      obtain ⟨rfl, hυ⟩ := hr
      rw [hK.2.1.2.1] at hυ
      obtain ⟨w1, w2, w3, w4⟩ := rr_w (σ := τ) (X := Nat × Int) (ok := fun x τ => rr_K τ tc n x.1 ∧ (some (Value.int (iI (0 : Int)))) = some (.int (iI x.2))) (k := 1) (w := (tk_s tc n k).2.1) (Or.inl rfl)
      have hυ' : υ = am_sI (am_sI τ 16 12 (nI 1)) 16 13 (nI (tk_s tc n k).2.1) := hυ
      rw [← hυ'] at w1 w2 w3 w4
      exact kb_11_bound_51 (kt := fun z => absurd z w4) (kf := fun _ => kb_11_bound_58 ⟨F.tr w2, (w3 4).trans eA, ⟨_, rfl⟩, w1⟩)
  refine am_enter rfl (by simp [Value.category]) (Nat.le_of_ble_eq_true rfl) ?_
  refine kb_11_bound_0 (kf := fun z => absurd h.2.2 z) (kt := fun _ => ?_)
  refine kb_11_bound_9 (hC := sp_11_isSign_0 (c := 45) h (by decide) (by decide)) (k := fun r τ hr => ?_)
  obtain ⟨rfl, rfl⟩ := hr
  rw [h.2.1.2.1]
  by_cases q : (tk_s tc n i).1 = 45
  · rw [decide_eq_true q]
    refine kb_11_bound_20 (kt := fun z => absurd z (by decide)) (kf := fun _ => ?_)
    refine kb_11_bound_27 (hC := sp_11_goOn_0 h) (k := fun r υ hr => ?_)
    obtain ⟨rfl, F2, hK2⟩ := hr
    refine tail true (i + 1) υ _ hK2 F2.kr F2.a4 (fun z => ?_) (fun x hx z => ?_)
    · unfold pa_bd pa_sn; rw [if_pos q, if_neg z]
    · rw [if_pos rfl] at hx
      rw [hx]
      unfold pa_bd pa_sn; rw [if_pos q, if_pos z]
      by_cases c : -((tk_s tc n (i + 1)).2.2.2 : Int) < low ∨ 20 < -((tk_s tc n (i + 1)).2.2.2 : Int)
      · rw [if_pos c, if_pos c]
      · rw [if_neg c, if_neg c]
  · rw [decide_eq_false q]
    refine kb_11_bound_20 (kf := fun z => absurd rfl z) (kt := fun _ => ?_)
    refine tail false i τ _ h mo_Fm.rf rfl (fun z => ?_) (fun x hx z => ?_)
    · unfold pa_bd pa_sn; rw [if_neg q, if_neg z]
    · rw [if_neg (by decide)] at hx
      rw [hx]
      unfold pa_bd pa_sn; rw [if_neg q, if_pos z]
      by_cases c : ((tk_s tc n i).2.2.2 : Int) < low ∨ 20 < ((tk_s tc n i).2.2.2 : Int)
      · rw [if_pos c, if_pos c]
      · rw [if_neg c, if_neg c]
end MSUMS
