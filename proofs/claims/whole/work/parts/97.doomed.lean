/-! chains of the steps that lead to each state; what is doomed -/
theorem am_fill_lt {n i : Nat} {v : Int32} {f : Nat → Int32} (h : i < n) : am_fill n v f i = v := by unfold am_fill; rw [if_pos h]
/-- where the edge e leads; 9999: nowhere -/
def nx_te (K : Nat) (nx : Nat → Nat → Option Nat) (e : Nat) : Nat := if e % 8 < K then (match nx (e / 8) (e % 8) with
  | none => 9999
  | some t => t) else 9999
section DOOMED
variable {d N K : Nat} {nx : Nat → Nat → Option Nat} {st bd cm : Nat → Bool} {σ : am_St}
theorem nx_te_at {s k : Nat} (hk : k < K) (hK : K ≤ 8) : nx_te K nx (8 * s + k) = match nx s k with | none => 9999 | some t => t := by
  unfold nx_te
  rw [show (8 * s + k) % 8 = k by omega, show (8 * s + k) / 8 = s by omega, if_pos hk]
theorem nx_te_off {e : Nat} (h : K ≤ e % 8) : nx_te K nx e = 9999 := by unfold nx_te; rw [if_neg (by omega)]
theorem am_lo_off {s t : Nat} (ht : t < 9999) : ∀ i, K + i ≤ 8 → am_lo (nx_te K nx) t (8 * s + K + i) = am_lo (nx_te K nx) t (8 * s + K) := by
  intro i
  induction i with
  | zero => intro _; rfl
  | succ i ih =>
    intro hi
    show (if nx_te K nx (8 * s + K + i) = t then nI (8 * s + K + i) else am_lo (nx_te K nx) t (8 * s + K + i)) = _
    rw [if_neg (by rw [nx_te_off (by omega)]; omega), ih (by omega)]
/-- heads and nexts of the chains of the first n edges -/
def ch_S (τ : am_St) (N K : Nat) (nx : Nat → Nat → Option Nat) (n : Nat) : Prop := (∀ t, t < N → am_A τ 4 14 t = am_lo (nx_te K nx) t n) ∧ ∀ e, e < n → nx_te K nx e ≠ 9999 → am_A τ 4 15 e = am_lo (nx_te K nx) (nx_te K nx e) e
theorem sp_9_chainSteps (hN : N ≤ 600) (hK : K ≤ 8) (h5 : am_I σ 4 5 = nI N) (h3 : am_I σ 4 3 = nI K) (hx : ∀ s, s < N → ∀ k, k < K → am_A σ 4 11 (8 * s + k) = am_oI (-2) (nx s k) ∧ ∀ t, nx s k = some t → t < N) : am_C false ya_9_chainSteps (d + 1) [.ref (am_oid 4)] σ (fun r τ => r = none ∧ wf_F [14, 15] σ τ ∧ ch_S τ N K nx (8 * N)) := by
  have outer : ∀ (j s : Nat) (τ : am_St) (a2 a3 a4 : Option Value), s + j = N → wf_F [14, 15] σ τ → ch_S τ N K nx (8 * s) → am_T false ya_9_chainSteps (d + 1) (fun r τ => r = none ∧ wf_F [14, 15] σ τ ∧ ch_S τ N K nx (8 * N)) 10 [some (.ref (am_oid 4)), some (.int (nI s)), a2, a3, a4] [] τ := by
    intro j
    induction j with
    | zero =>
      intro s τ a2 a3 a4 hs F hc
      have : s = N := by omega
      subst this
      exact kb_9_chainSteps_10 (kt := fun _ => kb_9_chainSteps_81 ⟨rfl, F, hc⟩) (kf := fun z => absurd (by rw [F.1, h5]; exact nI_le (by omega) (by omega)) z)
    | succ j ih =>
      intro s τ a2 a3 a4 hs F hc
      refine kb_9_chainSteps_10 (kt := fun z => absurd z (by rw [F.1, h5]; exact nI_ge (by omega) (by omega))) (kf := fun _ => kb_9_chainSteps_18 (k := ?_))
      have inner : ∀ (i k : Nat) (υ : am_St) (b3 b4 : Option Value), k + i = K → wf_F [14, 15] σ υ → ch_S υ N K nx (8 * s + k) → am_T false ya_9_chainSteps (d + 1) (fun r τ => r = none ∧ wf_F [14, 15] σ τ ∧ ch_S τ N K nx (8 * N)) 20 [some (.ref (am_oid 4)), some (.int (nI s)), some (.int (nI k)), b3, b4] [] υ := by
        intro i
        induction i with
        | zero =>
          intro k υ b3 b4 hk F' hc'
          have : k = K := by omega
          subst this
          refine kb_9_chainSteps_20 (kt := fun _ => kb_9_chainSteps_75 (k := ?_)) (kf := fun z => absurd (by rw [F'.1, h3]; exact nI_le (by omega) (by omega)) z)
          rw [nI_1]
          refine ih (s + 1) υ _ _ _ (by omega) F' ⟨fun t ht => ?_, fun e he hne => ?_⟩
          · have := am_lo_off (K := k) (nx := nx) (s := s) (t := t) (by omega) (8 - k) (by omega)
            rw [show 8 * s + k + (8 - k) = 8 * (s + 1) by omega] at this
            rw [this]; exact hc'.1 t ht
          · rcases Nat.lt_or_ge e (8 * s + k) with q | q
            · exact hc'.2 e q hne
            · exact absurd (nx_te_off (K := k) (nx := nx) (e := e) (by omega)) hne
        | succ i ihi =>
          intro k υ b3 b4 hk F' hc'
          obtain ⟨x1, x2⟩ := hx s (by omega) k (by omega)
          have e11 : am_A υ 4 11 = am_A σ 4 11 := F'.2.1 4 11 (by simp)
          have eT : am_A υ 4 11 (nI s * 8 + nI k).toNatClampNeg = am_oI (-2) (nx s k) := by rw [am_ix8, nI_clamp (by omega), e11]; exact x1
          have te := nx_te_at (K := K) (nx := nx) (s := s) (k := k) (by omega) hK
          refine kb_9_chainSteps_20 (kt := fun z => absurd z (by rw [F'.1, h3]; exact nI_ge (by omega) (by omega))) (kf := fun _ => ?_)
          refine kb_9_chainSteps_28 (hi0 := by rw [am_ix8]; exact vp_in_nI (by omega) (by omega)) (kt := fun z => ?_) (kf := fun z => ?_)
          · rw [eT] at z
            have hn : nx s k = none := by
              cases hn : nx s k with
              | none => rfl
              | some t =>
                have := x2 t hn
                rw [hn] at z
                exact absurd z (nI_pos (show t < 2 ^ 31 by omega))
            rw [hn] at te
            refine kb_9_chainSteps_69 (k := ?_)
            rw [nI_1]
            refine ihi (k + 1) υ _ _ (by omega) F' ⟨fun t ht => ?_, fun e he hne => ?_⟩
            · show _ = (if nx_te K nx (8 * s + k) = t then nI (8 * s + k) else am_lo (nx_te K nx) t (8 * s + k))
              rw [te, if_neg (by show ¬ 9999 = t; omega)]; exact hc'.1 t ht
            · have : e ≠ 8 * s + k := fun c => hne (by rw [c]; exact te)
              exact hc'.2 e (by omega) hne
          · rw [eT] at z
            cases hn : nx s k with
            | none => rw [hn] at z; exact absurd (show (-2 : Int32) < 0 by decide) z
            | some t =>
              have htN := x2 t hn
              rw [hn] at te
              have te' : nx_te K nx (8 * s + k) = t := te
              have eT' : am_A υ 4 11 (nI s * 8 + nI k).toNatClampNeg = nI t := by rw [eT, hn]; rfl
              rw [eT', am_ix8]
              refine kb_9_chainSteps_48 (hi0 := vp_in_nI (by omega) (by omega)) (hi1 := vp_in_nI (by omega) (by omega)) (hi2 := vp_in_nI (by omega) (by omega)) (k := kb_9_chainSteps_69 (k := ?_))
              rw [nI_1, nI_clamp (show t < 2 ^ 31 by omega), nI_clamp (show 8 * s + k < 2 ^ 31 by omega)]
              have g14 : ∀ f q : Nat → Int32, am_A (am_sA (am_sA υ 4 15 f) 4 14 q) 4 14 = q := fun f q => by rw [am_A_sA, if_pos ⟨rfl, rfl⟩]
              have g15 : ∀ f q : Nat → Int32, am_A (am_sA (am_sA υ 4 15 f) 4 14 q) 4 15 = f := fun f q => by rw [am_A_sA, if_neg (by simp), am_A_sA, if_pos ⟨rfl, rfl⟩]
              refine ihi (k + 1) _ _ _ (by omega) ((F'.sA (by rfl) _).sA (by rfl) _) ⟨fun u hu => ?_, fun e he hne => ?_⟩
              · rw [g14]
                show _ = (if nx_te K nx (8 * s + k) = u then nI (8 * s + k) else am_lo (nx_te K nx) u (8 * s + k))
                rw [te']
                by_cases c : u = t
                · rw [c, upd_s, if_pos rfl]
                · rw [upd_n c, if_neg (fun z => c z.symm)]; exact hc'.1 u hu
              · rw [g15]
                by_cases c : e = 8 * s + k
                · rw [c, upd_s, te']; exact hc'.1 t htN
                · rw [upd_n c]; exact hc'.2 e (by omega) hne
      have := inner K 0 τ a3 a4 (by omega) F hc
      rw [nI_0] at this
      exact this
  refine am_enter rfl (by simp [Value.category]) (Nat.le_of_ble_eq_true rfl) ?_
  refine kb_9_chainSteps_0 (hC := sp_fill false d 4 14 9 600 (-1) σ rfl (by decide) rfl (by decide)) (k := fun r τ hr => ?_)
  obtain ⟨rfl, hτ⟩ := hr
  refine kb_9_chainSteps_8 (k := ?_)
  have := outer N 0 τ none none none (by omega) (by rw [hτ]; exact wf_F.rf.sA (by rfl) _) ⟨fun t ht => by rw [hτ, am_A_sA, if_pos ⟨rfl, rfl⟩, am_fill_lt (by omega)]; rfl, fun e he => absurd he (by omega)⟩
  rw [nI_0] at this
  exact this
theorem sp_9_findDoomed (hN : N ≤ 600) (hK : K ≤ 8) (h5 : am_I σ 4 5 = nI N) (h3 : am_I σ 4 3 = nI K) (hf : ∀ s, s < N → am_A σ 4 9 s = am_f4 (st s) (bd s) (cm s) false) (hx : ∀ s, s < N → ∀ k, k < K → am_A σ 4 11 (8 * s + k) = am_oI (-2) (nx s k) ∧ ∀ t, nx s k = some t → t < N) : am_C false ya_9_findDoomed (d + 2) [.ref (am_oid 4)] σ (fun r τ => r = none ∧ wf_F [9, 13, 14, 15] σ τ ∧ ∀ s, s < N → am_A τ 4 9 s = am_f4 (st s) (bd s) (cm s) (rl_clo (nx_B N K nx) (am_lN N bd) s)) := by
  generalize hQ : (fun (r : Option Value) (τ : am_St) => r = none ∧ wf_F [9, 13, 14, 15] σ τ ∧ ∀ s, s < N → am_A τ 4 9 s = am_f4 (st s) (bd s) (cm s) (rl_clo (nx_B N K nx) (am_lN N bd) s)) = Q
  obtain ⟨R, hR⟩ : ∃ R, R = nx_B N K nx := ⟨_, rfl⟩
  rw [← hR] at hQ
  -- an edge by its parts
  have edge : ∀ e p, e < 8 * N → nx_te K nx e = p → p < N → e / 8 < N ∧ R p (e / 8) := fun e p he hp hpN => by
    unfold nx_te at hp
    by_cases c : e % 8 < K
    · rw [if_pos c] at hp
      cases hn : nx (e / 8) (e % 8) with
      | none => rw [hn] at hp; exact absurd hp (by show ¬ 9999 = p; omega)
      | some t =>
        rw [hn] at hp
        have hp' : t = p := hp
        refine ⟨by omega, ?_⟩
        rw [hR]; exact ⟨by omega, e % 8, c, by rw [hn, hp']⟩
    · rw [if_neg c] at hp; omega
  have edge' : ∀ p s, R p s → s < N ∧ ∃ e, e < 8 * N ∧ e / 8 = s ∧ nx_te K nx e = p := fun p s hr => by
    rw [hR] at hr
    obtain ⟨hs, k, hk, hn⟩ := hr
    refine ⟨hs, 8 * s + k, by omega, by omega, ?_⟩
    rw [nx_te_at hk hK, hn]
  have rN : ∀ p s, R p s → p < N := fun p s hr => by
    rw [hR] at hr
    obtain ⟨hs, k, hk, hn⟩ := hr
    exact (hx s hs k hk).2 p hn
  have done : ∀ (c : Nat → Bool) (τ : am_St), wf_F [9, 13, 14, 15] σ τ → (∀ s, s < N → am_A τ 4 9 s = am_f4 (st s) (bd s) (cm s) (c s)) → bf_S τ N R (am_lN N bd) c → (∀ s t, R s t → c s = true → c t = true) → Q none τ := by
    intro c τ F hfl hS hcl
    have := hS.2.1.eq hcl
    rw [← hQ, ← this]; exact ⟨rfl, F, hfl⟩
  have heads : ∀ (j hd : Nat) (c : Nat → Bool) (τ : am_St) (a3 a4 a5 : Option Value), hd + j = N → hd ≤ am_cn c N → wf_F [9, 13, 14, 15] σ τ → ch_S τ N K nx (8 * N) → (∀ s, s < N → am_A τ 4 9 s = am_f4 (st s) (bd s) (cm s) (c s)) → bf_S τ N R (am_lN N bd) c → (∀ i, i < hd → ∀ s, s < N → am_A τ 4 13 i = nI s → ∀ t, R s t → c t = true) → am_T false ya_9_findDoomed (d + 2) Q 14 [some (.ref (am_oid 4)), some (.int (nI (am_cn c N))), some (.int (nI hd)), a3, a4, a5] [] τ := by
    intro j
    induction j with
    | zero =>
      intro hd c τ a3 a4 a5 hj hh F hch hfl hS hpr
      have hcl := am_cn_le c N
      refine kb_9_findDoomed_14 (kt := fun _ => kb_9_findDoomed_116 (done c τ F hfl hS (fun s t hr hc => ?_))) (kf := fun z => absurd (nI_le (by omega) (by omega)) z)
      have hs : s < N := rN s t hr
      obtain ⟨i, b1, b2⟩ := hS.1.2 s hs hc
      exact hpr i (by omega) s hs b2 t hr
    | succ j ih =>
      intro hd c τ a3 a4 a5 hj hh F hch hfl hS hpr
      have hcl := am_cn_le c N
      refine kb_9_findDoomed_14 (kt := fun z => kb_9_findDoomed_116 (done c τ F hfl hS (fun s t hr hc => ?_))) (kf := fun z => ?_)
      · have z' : am_cn c N ≤ hd := by
          rcases Nat.lt_or_ge hd (am_cn c N) with q | q
          · exact absurd z (nI_ge q (by omega))
          · exact q
        have hs : s < N := rN s t hr
        obtain ⟨i, b1, b2⟩ := hS.1.2 s hs hc
        exact hpr i (by omega) s hs b2 t hr
      have hlt : hd < am_cn c N := by
        rcases Nat.lt_or_ge hd (am_cn c N) with q | q
        · exact q
        · exact absurd (nI_le q (by omega)) z
      refine kb_9_findDoomed_19 (kt := fun y => absurd y (by rw [F.1, h5]; exact nI_ge (by omega) (by omega))) (kf := fun _ => ?_)
      obtain ⟨s, hs, hqs, hcs⟩ := hS.1.1 hd hlt
      have inner : ∀ (n lf : Nat) (c : Nat → Bool) (υ : am_St) (b5 : Option Value), n ≤ lf → lf ≤ 4800 → n ≤ 8 * N → hd < am_cn c N → c s = true → am_A υ 4 13 hd = nI s → wf_F [9, 13, 14, 15] σ υ → ch_S υ N K nx (8 * N) → (∀ s, s < N → am_A υ 4 9 s = am_f4 (st s) (bd s) (cm s) (c s)) → bf_S υ N R (am_lN N bd) c → (∀ i, i < hd → ∀ s, s < N → am_A υ 4 13 i = nI s → ∀ t, R s t → c t = true) → (∀ e, n ≤ e → e < 8 * N → nx_te K nx e = s → c (e / 8) = true) → am_T false ya_9_findDoomed (d + 2) Q 46 [some (.ref (am_oid 4)), some (.int (nI (am_cn c N))), some (.int (nI hd)), some (.int (am_lo (nx_te K nx) s n)), some (.int (nI lf)), b5] [] υ := by
        intro n
        induction n using Nat.strongRecOn with
        | _ n ihn =>
          intro lf c υ b5 hn hlf hn8 h1 h2 h4 F' hch' hfl' hS' hpr' hes
          have hcl := am_cn_le c N
          rcases am_lo_cases (nx_te K nx) s n with ⟨e1, e2⟩ | ⟨e, e1, e2, e3, e4⟩
          · rw [e1]
            refine kb_9_findDoomed_46 (kt := fun _ => kb_9_findDoomed_110 (k := ?_)) (kf := fun z => absurd am_neg1 z)
            rw [nI_1]
            refine ih (hd + 1) c υ _ _ _ (by omega) (by omega) F' hch' hfl' hS' (fun i' hi' s' hs' hq' t hr => ?_)
            by_cases c' : i' = hd
            · rw [c', h4] at hq'
              have : s = s' := nI_inj (by omega) (by omega) hq'
              obtain ⟨b1, e', b2, b3, b4⟩ := edge' s' t hr
              rw [← this] at b4
              rcases Nat.lt_or_ge e' n with q | q
              · exact absurd b4 (e2 e' q)
              · rw [← b3]; exact hes e' q b2 b4
            · exact hpr' i' (by omega) s' hs' hq' t hr
          · rw [e2]
            obtain ⟨m1, m2⟩ := edge e s (by omega) e3 hs
            obtain ⟨u, hu⟩ : ∃ u, u = e / 8 := ⟨_, rfl⟩
            rw [← hu] at m1 m2
            have ed : nI e / 8 = nI u := by rw [show (8 : Int32) = nI 8 from rfl, pk_div (by omega) (by decide) (by decide), hu]
            have nxt : am_A υ 4 15 (nI e).toNatClampNeg = am_lo (nx_te K nx) s e := by
              rw [nI_clamp (show e < 2 ^ 31 by omega), hch'.2 e (by omega) (by rw [e3]; omega), e3]
            have cu : (nI u).toNatClampNeg = u := nI_clamp (by omega)
            have vu : vp_in (nI u) 600 := vp_in_nI (by omega) (by omega)
            have f4a := (am_f4_and (st u) (bd u) (cm u) (c u)).2.2.2
            have elf : nI lf + (-1) = nI (lf - 1) := by
              obtain ⟨l, rfl⟩ : ∃ l, lf = l + 1 := ⟨lf - 1, by omega⟩
              exact pk_m1 l
            refine kb_9_findDoomed_46 (kt := fun z => absurd z (nI_pos (show e < 2 ^ 31 by omega))) (kf := fun _ => ?_)
            refine kb_9_findDoomed_50 (kt := fun z => absurd z (by rw [← nI_0]; exact nI_ge (show 0 < lf by omega) (by omega))) (kf := fun _ => ?_)
            refine kb_9_findDoomed_55 (hi1 := by rw [ed]; exact vu) (kt := fun y => ?_) (kf := fun y => ?_)
            · rw [ed, cu, hfl' u m1, f4a] at y
              have y' : c u = true := by simpa using y
              refine kb_9_findDoomed_97 (hi0 := vp_in_nI (by omega) (by omega)) (k := ?_)
              rw [nxt, elf]
              refine ihn e e1 (lf - 1) c υ _ (by omega) (by omega) (by omega) h1 h2 h4 F' hch' hfl' hS' hpr' (fun e' q1 q2 q3 => ?_)
              rcases Nat.lt_or_ge e' n with q | q
              · by_cases c' : e' = e
                · rw [c', ← hu]; exact y'
                · exact absurd q3 (e4 e' (by omega) q)
              · exact hes e' q q2 q3
            · rw [ed, cu, hfl' u m1, f4a] at y
              have hlt2 : am_cn c N < N := by
                have e := am_cn_or1 (g := c) (n := N) m1 y
                have := am_cn_le (fun j => j == u || c j) N
                omega
              rw [ed]
              refine kb_9_findDoomed_74 (hi0 := vu) (hi1 := vu) (hi2 := vp_in_nI (by omega) (by omega)) (k := ?_)
              rw [nI_1, cu, nI_clamp (show am_cn c N < 2 ^ 31 by omega)]
              obtain ⟨φ, hφ⟩ : ∃ φ, φ = am_sA (am_sA υ 4 9 (upd (am_A υ 4 9) u (am_A υ 4 9 u ||| 8))) 4 13 (upd (am_A υ 4 13) (am_cn c N) (nI u)) := ⟨_, rfl⟩
              rw [← hφ]
              have g9 : am_A φ 4 9 = upd (am_A υ 4 9) u (am_A υ 4 9 u ||| 8) := by rw [hφ, am_A_sA, if_neg (by simp), am_A_sA, if_pos ⟨rfl, rfl⟩]
              have g13 : am_A φ 4 13 = upd (am_A υ 4 13) (am_cn c N) (nI u) := by rw [hφ, am_A_sA, if_pos ⟨rfl, rfl⟩]
              have g14 : am_A φ 4 14 = am_A υ 4 14 := by rw [hφ, am_A_sA, if_neg (by simp), am_A_sA, if_neg (by simp)]
              have g15 : am_A φ 4 15 = am_A υ 4 15 := by rw [hφ, am_A_sA, if_neg (by simp), am_A_sA, if_neg (by simp)]
              obtain ⟨hS2, eC⟩ := hS'.add (υ := φ) m1 y m2 h2 g13
              refine kb_9_findDoomed_97 (hi0 := vp_in_nI (by omega) (by omega)) (k := ?_)
              rw [g15, nxt, elf, ← eC]
              refine ihn e e1 (lf - 1) (fun j => j == u || c j) φ _ (by omega) (by omega) (by omega) (by rw [eC]; omega) (by simp [h2]) (by rw [g13, upd_n (by omega)]; exact h4) (by rw [hφ]; exact (F'.sA (by rfl) _).sA (by rfl) _) ⟨fun t ht => by rw [g14]; exact hch'.1 t ht, fun e he hne => by rw [g15]; exact hch'.2 e he hne⟩ (fun s' hs' => ?_) hS2 (fun i' hi' s' hs' hq' t' hr => ?_) (fun e' q1 q2 q3 => ?_)
              · rw [g9]
                by_cases c' : s' = u
                · rw [c', upd_s, hfl' u m1, f4_or8]
                  simp
                · rw [upd_n c', hfl' s' hs']
                  have : (s' == u) = false := by simpa using c'
                  simp [this]
              · rw [g13, upd_n (by omega)] at hq'
                have := hpr' i' hi' s' hs' hq' t' hr
                simp [this]
              · rcases Nat.lt_or_ge e' n with q | q
                · by_cases c' : e' = e
                  · simp [c', hu]
                  · exact absurd q3 (e4 e' (by omega) q)
                · have := hes e' q q2 q3
                  simp [this]
      have ch : (nI hd).toNatClampNeg = hd := nI_clamp (by omega)
      refine kb_9_findDoomed_27 (hi0 := vp_in_nI (by omega) (by omega)) (hi1 := by rw [ch, hqs]; exact vp_in_nI (by omega) (by omega)) (k := ?_)
      rw [ch, hqs, nI_clamp (show s < 2 ^ 31 by omega), hch.1 s hs, show (4800 : Int32) = nI 4800 from rfl]
      exact inner (8 * N) 4800 c τ a5 (by omega) (Nat.le_refl _) (Nat.le_refl _) hlt hcs hqs F hch hfl hS hpr (fun e q1 q2 => absurd q2 (by omega))
  refine am_enter rfl (by simp [Value.category]) (Nat.le_of_ble_eq_true rfl) ?_
  refine kb_9_findDoomed_0 (hC := sp_9_chainSteps hN hK h5 h3 hx) (k := fun r τ0 hr => ?_)
  obtain ⟨rfl, F0, hch0⟩ := hr
  refine kb_9_findDoomed_4 (hC := sp_9_gather (w := 2) (m := 8) (fo := fun s => am_f4 (st s) (bd s) (cm s) false) (fn := fun s => am_f4 (st s) (bd s) (cm s) (bd s)) (sel := am_lN N bd) hN (by rw [F0.1]; exact h5) (fun s hs => by rw [F0.2.1 4 9 (by simp)]; exact hf s hs) (fun s hs => by rw [am_lN_lt hs]; exact (am_f4_and (st s) (bd s) (cm s) false).2.1) (fun s hs h => by rw [am_lN_lt hs] at h; show am_f4 (st s) (bd s) (cm s) false ||| 8 = am_f4 (st s) (bd s) (cm s) (bd s); rw [f4_or8, h]) (fun s hs h => by rw [am_lN_lt hs] at h; show am_f4 (st s) (bd s) (cm s) false = am_f4 (st s) (bd s) (cm s) (bd s); rw [h])) (k := fun r τ hr => ?_)
  obtain ⟨rfl, F, hfl, hq⟩ := hr
  refine kb_9_findDoomed_11 (k := ?_)
  have := heads N 0 (am_lN N bd) τ none none none (by omega) (Nat.zero_le _) ((F0.wid (by rfl)).tr (F.wid (by rfl))) ⟨fun t ht => by rw [F.2.1 4 14 (by simp)]; exact hch0.1 t ht, fun e he hne => by rw [F.2.1 4 15 (by simp)]; exact hch0.2 e he hne⟩ (fun s hs => by rw [hfl s hs, am_lN_lt hs]) ⟨hq, rl_Bt.rf, fun s hs => am_lN_ge hs⟩ (fun i hi => absurd hi (Nat.not_lt_zero i))
  rw [nI_0] at this
  exact this
end DOOMED
