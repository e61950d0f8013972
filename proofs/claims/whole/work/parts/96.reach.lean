/-! what is come to, what is doomed: least closed sets; the class's gather, findComeTo, chainSteps, findDoomed -/
def rl_Cl (R : Nat → Nat → Prop) (h : Nat → Bool) : Prop := ∀ s t, R s t → h s = true → h t = true
/-- between g0 and its closure -/
def rl_Bt (R : Nat → Nat → Prop) (g0 g : Nat → Bool) : Prop := (∀ i, g0 i = true → g i = true) ∧ ∀ h : Nat → Bool, (∀ i, g0 i = true → h i = true) → rl_Cl R h → ∀ i, g i = true → h i = true
noncomputable def rl_clo (R : Nat → Nat → Prop) (g0 : Nat → Bool) : Nat → Bool := fun i => @decide (∀ h : Nat → Bool, (∀ i, g0 i = true → h i = true) → rl_Cl R h → h i = true) (Classical.propDecidable _)
theorem rl_Bt.eq {R : Nat → Nat → Prop} {g0 g : Nat → Bool} (h : rl_Bt R g0 g) (hc : rl_Cl R g) : g = rl_clo R g0 := by
  funext i
  cases e : g i with
  | true => exact (@decide_eq_true _ (Classical.propDecidable _) (fun k h1 h2 => h.2 k h1 h2 i e)).symm
  | false => exact (@decide_eq_false _ (Classical.propDecidable _) (fun z => by have := z g h.1 hc; rw [e] at this; cases this)).symm
theorem rl_Bt.rf {R : Nat → Nat → Prop} {g0 : Nat → Bool} : rl_Bt R g0 g0 := ⟨fun _ z => z, fun _ z _ => z⟩
theorem rl_Bt.add {R : Nat → Nat → Prop} {g0 g : Nat → Bool} (h : rl_Bt R g0 g) {s t : Nat} (hr : R s t) (hg : g s = true) : rl_Bt R g0 (fun j => j == t || g j) := by
  refine ⟨fun i hi => by simp [h.1 i hi], fun hh h1 h2 i hi => ?_⟩
  rcases Bool.or_eq_true_iff.mp hi with c | c
  · rw [beq_iff_eq.mp c]; exact h2 s t hr (h.2 hh h1 h2 _ hg)
  · exact h.2 hh h1 h2 i c
def nx_R (N K : Nat) (nx : Nat → Nat → Option Nat) : Nat → Nat → Prop := fun s t => s < N ∧ ∃ k, k < K ∧ nx s k = some t
def nx_B (N K : Nat) (nx : Nat → Nat → Option Nat) : Nat → Nat → Prop := fun t s => nx_R N K nx s t
def am_lN (N : Nat) (p : Nat → Bool) : Nat → Bool := fun s => decide (s < N) && p s
theorem am_lN_lt {N : Nat} {p : Nat → Bool} {s : Nat} (h : s < N) : am_lN N p s = p s := by unfold am_lN; rw [decide_eq_true h, Bool.true_and]
theorem am_lN_ge {N : Nat} {p : Nat → Bool} {s : Nat} (h : N ≤ s) : am_lN N p s = false := by unfold am_lN; rw [decide_eq_false (by omega), Bool.false_and]
/-- a queue holds just those that are marked -/
def wq (f : Nat → Int32) (N : Nat) (c : Nat → Bool) (tl : Nat) : Prop := (∀ i, i < tl → ∃ s, s < N ∧ f i = nI s ∧ c s = true) ∧ ∀ s, s < N → c s = true → ∃ i, i < tl ∧ f i = nI s
theorem wq.add {f : Nat → Int32} {N : Nat} {c : Nat → Bool} {tl t : Nat} (h : wq f N c tl) (ht : t < N) : wq (upd f tl (nI t)) N (fun j => j == t || c j) (tl + 1) := by
  refine ⟨fun i hi => ?_, fun s hs hc => ?_⟩
  · by_cases e : i = tl
    · exact ⟨t, ht, by rw [e, upd_s], by simp⟩
    · obtain ⟨s, h1, h2, h3⟩ := h.1 i (by omega)
      exact ⟨s, h1, by rw [upd_n e]; exact h2, by simp [h3]⟩
  · by_cases e : s = t
    · exact ⟨tl, Nat.lt_succ_self _, by rw [e, upd_s]⟩
    · have hc' : c s = true := by
        rcases Bool.or_eq_true_iff.mp hc with z | z
        · exact absurd (beq_iff_eq.mp z) e
        · exact z
      obtain ⟨i, h1, h2⟩ := h.2 s hs hc'
      exact ⟨i, by omega, by rw [upd_n (by omega)]; exact h2⟩
theorem f4_or4 (a b c e : Bool) : am_f4 a b c e ||| 4 = am_f4 a b true e := by cases a <;> cases b <;> cases c <;> cases e <;> decide
theorem f4_or8 (a b c e : Bool) : am_f4 a b c e ||| 8 = am_f4 a b c true := by cases a <;> cases b <;> cases c <;> cases e <;> decide
section REACH
variable {d N K : Nat} {nx : Nat → Nat → Option Nat} {st bd cm : Nat → Bool} {σ : am_St}
theorem sp_9_gather {w m : Int32} {fo fn : Nat → Int32} {sel : Nat → Bool} (hN : N ≤ 600) (h5 : am_I σ 4 5 = nI N) (hf : ∀ s, s < N → am_A σ 4 9 s = fo s) (hw : ∀ s, s < N → (fo s &&& w = 0) = (sel s = false)) (h1 : ∀ s, s < N → sel s = true → fo s ||| m = fn s) (h0 : ∀ s, s < N → sel s = false → fo s = fn s) : am_C false ya_9_gather d [.ref (am_oid 4), .int w, .int m] σ (fun r τ => r = some (.int (nI (am_cn sel N))) ∧ wf_F [9, 13] σ τ ∧ (∀ s, s < N → am_A τ 4 9 s = fn s) ∧ wq (am_A τ 4 13) N sel (am_cn sel N)) := by
  generalize hQ : (fun (r : Option Value) (τ : am_St) => r = some (.int (nI (am_cn sel N))) ∧ wf_F [9, 13] σ τ ∧ (∀ s, s < N → am_A τ 4 9 s = fn s) ∧ wq (am_A τ 4 13) N sel (am_cn sel N)) = Q
  have loop : ∀ (j i : Nat) (τ : am_St), i + j = N → wf_F [9, 13] σ τ → (∀ s, s < i → am_A τ 4 9 s = fn s) → (∀ s, i ≤ s → s < N → am_A τ 4 9 s = fo s) → wq (am_A τ 4 13) i sel (am_cn sel i) → am_T false ya_9_gather d Q 5 [some (.ref (am_oid 4)), some (.int w), some (.int m), some (.int (nI (am_cn sel i))), some (.int (nI i))] [] τ := by
    intro j
    induction j with
    | zero =>
      intro i τ hi F a1 a2 a3
      have : i = N := by omega
      subst this
      refine kb_9_gather_5 (kt := fun _ => kb_9_gather_54 ?_) (kf := fun z => absurd (by rw [F.1, h5]; exact nI_le (by omega) (by omega)) z)
      rw [← hQ]; exact ⟨rfl, F, a1, a3⟩
    | succ j ih =>
      intro i τ hi F a1 a2 a3
      have ci : (nI i).toNatClampNeg = i := nI_clamp (by omega)
      have vi : vp_in (nI i) 600 := vp_in_nI (by omega) (by omega)
      have hcl := am_cn_le sel i
      have eC : am_cn sel (i + 1) = am_cn sel i + (if sel i = true then 1 else 0) := rfl
      refine kb_9_gather_5 (kt := fun z => absurd z (by rw [F.1, h5]; exact nI_ge (by omega) (by omega))) (kf := fun _ => ?_)
      refine kb_9_gather_14 (hi0 := vi) (kt := fun z => ?_) (kf := fun z => ?_)
      · rw [ci, a2 i (Nat.le_refl _) (by omega), hw i (by omega)] at z
        have eC : am_cn sel (i + 1) = am_cn sel i := by rw [eC, z]; rfl
        refine kb_9_gather_48 (k := ?_)
        rw [nI_1, ← eC]
        refine ih (i + 1) τ (by omega) F (fun s hs => ?_) (fun s c1 c2 => a2 s (by omega) c2) ?_
        · by_cases c : s = i
          · rw [c, a2 i (Nat.le_refl _) (by omega)]; exact h0 i (by omega) z
          · exact a1 s (by omega)
        · rw [eC]
          refine ⟨fun k hk => ?_, fun s hs hc => ?_⟩
          · obtain ⟨s, b1, b2, b3⟩ := a3.1 k hk
            exact ⟨s, by omega, b2, b3⟩
          · have : s ≠ i := fun c => by rw [c, z] at hc; cases hc
            exact a3.2 s (by omega) hc
      · rw [ci, a2 i (Nat.le_refl _) (by omega), hw i (by omega)] at z
        have z' : sel i = true := by simpa using z
        rw [z', if_pos rfl] at eC
        have vt : vp_in (nI (am_cn sel i)) 600 := vp_in_nI (by omega) (by omega)
        refine kb_9_gather_26 (hi0 := vi) (hi1 := vi) (hi2 := vt) (k := kb_9_gather_48 (k := ?_))
        rw [nI_1, nI_1, ci, nI_clamp (show am_cn sel i < 2 ^ 31 by omega), ← eC]
        have g9 : ∀ f q : Nat → Int32, am_A (am_sA (am_sA τ 4 9 f) 4 13 q) 4 9 = f := fun f q => by rw [am_A_sA, if_neg (by simp), am_A_sA, if_pos ⟨rfl, rfl⟩]
        have g13 : ∀ f q : Nat → Int32, am_A (am_sA (am_sA τ 4 9 f) 4 13 q) 4 13 = q := fun f q => by rw [am_A_sA, if_pos ⟨rfl, rfl⟩]
        refine ih (i + 1) _ (by omega) ((F.sA (by rfl) _).sA (by rfl) _) (fun s hs => ?_) (fun s c1 c2 => ?_) ?_
        · rw [g9]
          by_cases c : s = i
          · rw [c, upd_s, a2 i (Nat.le_refl _) (by omega)]; exact h1 i (by omega) z'
          · rw [upd_n c]; exact a1 s (by omega)
        · rw [g9, upd_n (by omega)]; exact a2 s (by omega) c2
        · rw [g13, eC]
          refine ⟨fun k hk => ?_, fun s hs hc => ?_⟩
          · by_cases c : k = am_cn sel i
            · exact ⟨i, by omega, by rw [c, upd_s], z'⟩
            · obtain ⟨s, b1, b2, b3⟩ := a3.1 k (by omega)
              exact ⟨s, by omega, by rw [upd_n c]; exact b2, b3⟩
          · by_cases c : s = i
            · exact ⟨am_cn sel i, by omega, by rw [c, upd_s]⟩
            · obtain ⟨k, b1, b2⟩ := a3.2 s (by omega) hc
              exact ⟨k, by omega, by rw [upd_n (by omega)]; exact b2⟩
  refine am_enter rfl (by simp [Value.category]) (Nat.le_of_ble_eq_true rfl) (kb_9_gather_0 (k := ?_))
  have := loop N 0 σ (by omega) wf_F.rf (fun s hs => absurd hs (Nat.not_lt_zero s)) (fun s _ hs => hf s hs) ⟨fun i hi => absurd hi (Nat.not_lt_zero i), fun s hs => absurd hs (Nat.not_lt_zero s)⟩
  rw [show am_cn sel 0 = 0 from rfl, nI_0] at this
  exact this
/-- what has been brought into the queue so far -/
def bf_S (τ : am_St) (N : Nat) (R : Nat → Nat → Prop) (g0 c : Nat → Bool) : Prop := wq (am_A τ 4 13) N c (am_cn c N) ∧ rl_Bt R g0 c ∧ ∀ s, N ≤ s → c s = false
theorem bf_S.add {τ υ : am_St} {R : Nat → Nat → Prop} {g0 c : Nat → Bool} {s t : Nat} (h : bf_S τ N R g0 c) (ht : t < N) (hc : c t = false) (hr : R s t) (hs : c s = true) (hq : am_A υ 4 13 = upd (am_A τ 4 13) (am_cn c N) (nI t)) : bf_S υ N R g0 (fun j => j == t || c j) ∧ am_cn (fun j => j == t || c j) N = am_cn c N + 1 := by
  have e := am_cn_or1 (g := c) (n := N) ht hc
  refine ⟨⟨?_, h.2.1.add hr hs, fun i hi => ?_⟩, e⟩
  · rw [hq, e]; exact h.1.add ht
  · have : (i == t) = false := by simp; omega
    show (i == t || c i) = false
    rw [this, h.2.2 i hi]; rfl
theorem sp_9_findComeTo (hN : N ≤ 600) (hK : K ≤ 8) (h5 : am_I σ 4 5 = nI N) (h3 : am_I σ 4 3 = nI K) (hf : ∀ s, s < N → am_A σ 4 9 s = am_f4 (st s) (bd s) false false) (hx : ∀ s, s < N → ∀ k, k < K → am_A σ 4 11 (8 * s + k) = am_oI (-2) (nx s k) ∧ ∀ t, nx s k = some t → t < N) : am_C false ya_9_findComeTo (d + 1) [.ref (am_oid 4)] σ (fun r τ => r = none ∧ wf_F [9, 13] σ τ ∧ ∀ s, s < N → am_A τ 4 9 s = am_f4 (st s) (bd s) (rl_clo (nx_R N K nx) (am_lN N st) s) false) := by
  generalize hQ : (fun (r : Option Value) (τ : am_St) => r = none ∧ wf_F [9, 13] σ τ ∧ ∀ s, s < N → am_A τ 4 9 s = am_f4 (st s) (bd s) (rl_clo (nx_R N K nx) (am_lN N st) s) false) = Q
  obtain ⟨R, hR⟩ : ∃ R, R = nx_R N K nx := ⟨_, rfl⟩
  rw [← hR] at hQ
  have done : ∀ (c : Nat → Bool) (τ : am_St), wf_F [9, 13] σ τ → (∀ s, s < N → am_A τ 4 9 s = am_f4 (st s) (bd s) (c s) false) → bf_S τ N R (am_lN N st) c → (∀ s t, R s t → c s = true → c t = true) → Q none τ := by
    intro c τ F hfl hS hcl
    have := hS.2.1.eq hcl
    rw [← hQ, ← this]; exact ⟨rfl, F, hfl⟩
  have heads : ∀ (j hd : Nat) (c : Nat → Bool) (τ : am_St) (a3 a4 : Option Value), hd + j = N → hd ≤ am_cn c N → wf_F [9, 13] σ τ → (∀ s, s < N → am_A τ 4 9 s = am_f4 (st s) (bd s) (c s) false) → bf_S τ N R (am_lN N st) c → (∀ i, i < hd → ∀ s, s < N → am_A τ 4 13 i = nI s → ∀ t, R s t → c t = true) → am_T false ya_9_findComeTo (d + 1) Q 9 [some (.ref (am_oid 4)), some (.int (nI (am_cn c N))), some (.int (nI hd)), a3, a4] [] τ := by
    intro j
    induction j with
    | zero =>
      intro hd c τ a3 a4 hj hh F hfl hS hpr
      have hcl := am_cn_le c N
      refine kb_9_findComeTo_9 (kt := fun _ => kb_9_findComeTo_101 (done c τ F hfl hS (fun s t hr hc => ?_))) (kf := fun z => absurd (nI_le (by omega) (by omega)) z)
      have hs : s < N := by rw [hR] at hr; exact hr.1
      obtain ⟨i, b1, b2⟩ := hS.1.2 s hs hc
      exact hpr i (by omega) s hs b2 t hr
    | succ j ih =>
      intro hd c τ a3 a4 hj hh F hfl hS hpr
      have hcl := am_cn_le c N
      refine kb_9_findComeTo_9 (kt := fun z => kb_9_findComeTo_101 (done c τ F hfl hS (fun s t hr hc => ?_))) (kf := fun z => ?_)
      · have z' : am_cn c N ≤ hd := by
          rcases Nat.lt_or_ge hd (am_cn c N) with q | q
          · exact absurd z (nI_ge q (by omega))
          · exact q
        have hs : s < N := by rw [hR] at hr; exact hr.1
        obtain ⟨i, b1, b2⟩ := hS.1.2 s hs hc
        exact hpr i (by omega) s hs b2 t hr
      have hlt : hd < am_cn c N := by
        rcases Nat.lt_or_ge hd (am_cn c N) with q | q
        · exact q
        · exact absurd (nI_le q (by omega)) z
      refine kb_9_findComeTo_14 (kt := fun y => absurd y (by rw [F.1, h5]; exact nI_ge (by omega) (by omega))) (kf := fun _ => kb_9_findComeTo_22 (k := ?_))
      obtain ⟨s, hs, hqs, hcs⟩ := hS.1.1 hd hlt
      have inner : ∀ (i k : Nat) (c : Nat → Bool) (υ : am_St) (b4 : Option Value), k + i = K → hd < am_cn c N → c s = true → am_A υ 4 13 hd = nI s → wf_F [9, 13] σ υ → (∀ s, s < N → am_A υ 4 9 s = am_f4 (st s) (bd s) (c s) false) → bf_S υ N R (am_lN N st) c → (∀ i, i < hd → ∀ s, s < N → am_A υ 4 13 i = nI s → ∀ t, R s t → c t = true) → (∀ k', k' < k → ∀ t, nx s k' = some t → c t = true) → am_T false ya_9_findComeTo (d + 1) Q 24 [some (.ref (am_oid 4)), some (.int (nI (am_cn c N))), some (.int (nI hd)), some (.int (nI k)), b4] [] υ := by
        intro i
        induction i with
        | zero =>
          intro k c υ b4 hk h1 h2 h4 F' hfl' hS' hpr' hks
          have : k = K := by omega
          subst this
          refine kb_9_findComeTo_24 (kt := fun _ => kb_9_findComeTo_95 (k := ?_)) (kf := fun z => absurd (by rw [F'.1, h3]; exact nI_le (by omega) (by omega)) z)
          rw [nI_1]
          refine ih (hd + 1) c υ _ _ (by omega) (by omega) F' hfl' hS' (fun i' hi' s' hs' hq' t hr => ?_)
          by_cases e : i' = hd
          · rw [e, h4] at hq'
            have : s = s' := nI_inj (by omega) (by omega) hq'
            rw [hR] at hr
            obtain ⟨-, k', b1, b2⟩ := hr
            exact hks k' b1 t (by rw [this]; exact b2)
          · exact hpr' i' (by omega) s' hs' hq' t hr
        | succ i ihi =>
          intro k c υ b4 hk h1 h2 h4 F' hfl' hS' hpr' hks
          obtain ⟨x1, x2⟩ := hx s hs k (by omega)
          have hcl := am_cn_le c N
          have e11 : am_A υ 4 11 = am_A σ 4 11 := F'.2.1 4 11 (by simp)
          have ch : (nI hd).toNatClampNeg = hd := nI_clamp (by omega)
          have eI : am_A υ 4 13 (nI hd).toNatClampNeg * 8 + nI k = nI (8 * s + k) := by rw [ch, h4, am_ix8]
          have eT : am_A υ 4 11 (am_A υ 4 13 (nI hd).toNatClampNeg * 8 + nI k).toNatClampNeg = am_oI (-2) (nx s k) := by rw [eI, nI_clamp (by omega), e11]; exact x1
          refine kb_9_findComeTo_24 (kt := fun z => absurd z (by rw [F'.1, h3]; exact nI_ge (by omega) (by omega))) (kf := fun _ => ?_)
          refine kb_9_findComeTo_32 (hi0 := vp_in_nI (by omega) (by omega)) (hi1 := by rw [eI]; exact vp_in_nI (by omega) (by omega)) (kt := fun z => ?_) (kf := fun z => ?_)
          · refine kb_9_findComeTo_89 (k := ?_)
            rw [nI_1]
            refine ihi (k + 1) c υ _ (by omega) h1 h2 h4 F' hfl' hS' hpr' (fun k' hk' t ht => ?_)
            by_cases e : k' = k
            · rw [eT, show nx s k = some t by rw [← e]; exact ht] at z
              have := x2 t (by rw [← e]; exact ht)
              exact absurd z (nI_pos (show t < 2 ^ 31 by omega))
            · exact hks k' (by omega) t ht
          · rw [eT] at z
            cases hn : nx s k with
            | none => rw [hn] at z; exact absurd (show (-2 : Int32) < 0 by decide) z
            | some t =>
              have htN := x2 t hn
              have eT' : am_A υ 4 11 (am_A υ 4 13 (nI hd).toNatClampNeg * 8 + nI k).toNatClampNeg = nI t := by rw [eT, hn]; rfl
              rw [eT']
              have ct : (nI t).toNatClampNeg = t := nI_clamp (by omega)
              have vt : vp_in (nI t) 600 := vp_in_nI (by omega) (by omega)
              have hrt : R s t := by rw [hR]; exact ⟨hs, k, by omega, hn⟩
              have f4a := (am_f4_and (st t) (bd t) (c t) false).2.2.1
              refine kb_9_findComeTo_55 (hi0 := vt) (kt := fun y => ?_) (kf := fun y => ?_)
              · rw [ct, hfl' t htN, f4a] at y
                have y' : c t = true := by simpa using y
                refine kb_9_findComeTo_89 (k := ?_)
                rw [nI_1]
                refine ihi (k + 1) c υ _ (by omega) h1 h2 h4 F' hfl' hS' hpr' (fun k' hk' t' ht' => ?_)
                by_cases e : k' = k
                · rw [e, hn] at ht'; injection ht' with ht'; rw [← ht']; exact y'
                · exact hks k' (by omega) t' ht'
              · rw [ct, hfl' t htN, f4a] at y
                have hlt2 : am_cn c N < N := by
                  have e := am_cn_or1 (g := c) (n := N) htN y
                  have := am_cn_le (fun j => j == t || c j) N
                  omega
                refine kb_9_findComeTo_67 (hi0 := vt) (hi1 := vt) (hi2 := vp_in_nI (by omega) (by omega)) (k := kb_9_findComeTo_89 (k := ?_))
                rw [nI_1, nI_1, ct, nI_clamp (show am_cn c N < 2 ^ 31 by omega)]
                obtain ⟨φ, hφ⟩ : ∃ φ, φ = am_sA (am_sA υ 4 9 (upd (am_A υ 4 9) t (am_A υ 4 9 t ||| 4))) 4 13 (upd (am_A υ 4 13) (am_cn c N) (nI t)) := ⟨_, rfl⟩
                rw [← hφ]
                have g9 : am_A φ 4 9 = upd (am_A υ 4 9) t (am_A υ 4 9 t ||| 4) := by rw [hφ, am_A_sA, if_neg (by simp), am_A_sA, if_pos ⟨rfl, rfl⟩]
                have g13 : am_A φ 4 13 = upd (am_A υ 4 13) (am_cn c N) (nI t) := by rw [hφ, am_A_sA, if_pos ⟨rfl, rfl⟩]
                obtain ⟨hS2, eC⟩ := hS'.add (υ := φ) htN y hrt h2 g13
                rw [← eC]
                refine ihi (k + 1) (fun j => j == t || c j) φ _ (by omega) (by rw [eC]; omega) (by simp [h2]) (by rw [g13, upd_n (by omega)]; exact h4) (by rw [hφ]; exact (F'.sA (by rfl) _).sA (by rfl) _) (fun s' hs' => ?_) hS2 (fun i' hi' s' hs' hq' t' hr => ?_) (fun k' hk' t' ht' => ?_)
                · rw [g9]
                  by_cases e : s' = t
                  · rw [e, upd_s, hfl' t htN, f4_or4]
                    simp
                  · rw [upd_n e, hfl' s' hs']
                    have : (s' == t) = false := by simpa using e
                    simp [this]
                · rw [g13, upd_n (by omega)] at hq'
                  have := hpr' i' hi' s' hs' hq' t' hr
                  simp [this]
                · by_cases e : k' = k
                  · rw [e, hn] at ht'; injection ht' with ht'; simp [ht']
                  · have := hks k' (by omega) t' ht'
                    simp [this]
      have := inner K 0 c τ a4 (by omega) hlt hcs hqs F hfl hS hpr (fun k' hk' => absurd hk' (Nat.not_lt_zero k'))
      rw [nI_0] at this
      exact this
  refine am_enter rfl (by simp [Value.category]) (Nat.le_of_ble_eq_true rfl) ?_
  refine kb_9_findComeTo_0 (hC := sp_9_gather (w := 1) (m := 4) (fo := fun s => am_f4 (st s) (bd s) false false) (fn := fun s => am_f4 (st s) (bd s) (st s) false) (sel := am_lN N st) hN h5 hf (fun s hs => by rw [am_lN_lt hs]; exact (am_f4_and (st s) (bd s) false false).1) (fun s hs h => by rw [am_lN_lt hs] at h; show am_f4 (st s) (bd s) false false ||| 4 = am_f4 (st s) (bd s) (st s) false; rw [f4_or4, h]) (fun s hs h => by rw [am_lN_lt hs] at h; show am_f4 (st s) (bd s) false false = am_f4 (st s) (bd s) (st s) false; rw [h])) (k := fun r τ hr => ?_)
  obtain ⟨rfl, F, hfl, hq⟩ := hr
  refine kb_9_findComeTo_6 (k := ?_)
  have := heads N 0 (am_lN N st) τ none none (by omega) (Nat.zero_le _) F (fun s hs => by rw [hfl s hs, am_lN_lt hs]) ⟨hq, rl_Bt.rf, fun s hs => am_lN_ge hs⟩ (fun i hi => absurd hi (Nat.not_lt_zero i))
  rw [nI_0] at this
  exact this
end REACH
