/-! THE REFERENCE: laysStates, becomes -/
def rm_P (σ : am_St) (p : pl_P) (N : Nat) : Prop := pP_ok p N ∧ mo_V σ (pP_nv p) (pP_ns p) (pP_nb p) (pP_lo p) (pP_wd p) N ∧ (∃ na, pl_M (am_A σ 16 3) (pP_nv p) (pP_ns p) (pP_nb p) (pP_K p) (pP_T p) na (pP_sg p) (pP_fm p) (pP_cf p) (pP_cn p) (pP_g p) (pP_sf p)) ∧ am_A σ 16 3 3 = nI (pP_K p) ∧ am_A σ 16 3 4 = nI (pP_T p)
theorem rm_P.same {σ τ : am_St} {p : pl_P} {N : Nat} (h : rm_P σ p N) (h3 : am_A τ 16 3 = am_A σ 16 3) : rm_P τ p N := by
  obtain ⟨a1, ⟨g0, g1, g2, g3, g4⟩, a3, a4, a5⟩ := h
  exact ⟨a1, ⟨g0, by rw [h3]; exact g1, by rw [h3]; exact g2, by rw [h3]; exact g3, fun v hv => by rw [h3]; exact g4 v hv⟩, by rw [h3]; exact a3, by rw [h3]; exact a4, by rw [h3]; exact a5⟩
abbrev mo_LF := mo_Fm [17] [18, 19, 20, 21, 22, 23, 24]
/-- the states that are laid -/
def ly_S (τ : am_St) (p : pl_P) (s : Nat) : Prop := ∀ s', s' < s → am_A τ 16 18 s' = pw_tb p s' ∧ am_A τ 16 19 s' = am_bI (pw_st p s') ∧ am_A τ 16 20 s' = am_bI (pw_bd p s') ∧ am_A τ 16 21 s' = am_bI (pw_st p s') ∧ am_A τ 16 22 s' = am_bI (pw_bd p s') ∧ ∀ k, k < pP_K p → am_A τ 16 23 (8 * s' + k) = am_oI (-1) (pw_nx p s' k)
theorem pl_cd_1 {nv : Nat} {sg : Nat → Int32} {fm : Nat → Nat → Int32} {cf cn : Nat → Nat} {x : Nat → Int32} {c : Nat} (h : cn c = 1) : pl_cd nv sg fm cf cn x c = pl_at nv sg fm x (cf c) := by
  unfold pl_cd
  rw [h]
  show (true && pl_at nv sg fm x (cf c + 0)) = _
  rw [Bool.true_and]; rfl
section MLAYS
variable {d N : Nat} {p : pl_P} {σ : am_St}
theorem sp_11_laysStates (h : rm_P σ p N) : am_C true ya_11_laysStates (d + 4) [.ref (am_oid 16)] σ (fun r τ => r = none ∧ mo_LF σ τ ∧ mo_Wo τ N (pP_K p) (pP_T p) (pw_tb p) (pw_fl p N) (pw_nx p)) := by
  obtain ⟨ok, hV, ⟨na, hM⟩, h3, h4⟩ := id h
  obtain ⟨wo, o1, o2, o3, o4⟩ := id ok
  have hN : N ≤ 600 := wo.2.2.2
  have hnv : pP_nv p ≤ 3 := wo.1
  have eN : N = wl_p (pP_wd p) (pP_nv p) := wo.2.2.1
  generalize hQ : (fun (r : Option Value) (τ : am_St) => r = none ∧ mo_LF σ τ ∧ mo_Wo τ N (pP_K p) (pP_T p) (pw_tb p) (pw_fl p N) (pw_nx p)) = Q
  -- spreading till nothing changes
  have spread : ∀ (m : Nat) (c e : Nat → Bool) (τ : am_St) (b : Bool) (a2 : Option Value), (b = true → am_cn c N + am_cn e N + m = 2 * N + 1) → mo_LF σ τ → am_I τ 16 17 = nI N → (∀ s, s < N → am_A τ 16 18 s = pw_tb p s ∧ am_A τ 16 19 s = am_bI (pw_st p s) ∧ am_A τ 16 20 s = am_bI (pw_bd p s) ∧ ∀ k, k < pP_K p → am_A τ 16 23 (8 * s + k) = am_oI (-1) (pw_nx p s k)) → ms_S τ N (pP_K p) (pw_nx p) (am_lN N (pw_st p)) (am_lN N (pw_bd p)) c e → (b = false → rl_Cl (nx_R N (pP_K p) (pw_nx p)) c ∧ rl_Cl (nx_B N (pP_K p) (pw_nx p)) e) → am_T true ya_11_laysStates (d + 4) Q 183 [some (.ref (am_oid 16)), some (.int (am_bI b)), a2] [] τ := by
    intro m
    induction m using Nat.strongRecOn with
    | _ m ih =>
      intro c e τ b a2 hm F h17 hL hS hb
      cases b with
      | false =>
        obtain ⟨b1, b2⟩ := hb rfl
        have ec := hS.2.1.eq b1
        have ee := hS.2.2.eq b2
        refine kb_11_laysStates_183 (kt := fun _ => kb_11_laysStates_195 ?_) (kf := fun z => absurd rfl z)
        rw [← hQ]
        refine ⟨rfl, F, hN, o3, o4, h17, by rw [F.2 3 rfl]; exact h3, by rw [F.2 3 rfl]; exact h4, fun s hs => ⟨(hL s hs).1, (hL s hs).2.1, (hL s hs).2.2.1, ?_, ?_⟩, fun s hs k hk => ⟨(hL s hs).2.2.2 k hk, fun t ht => pw_nx_lt ok ht⟩⟩
        · rw [(hS.1 s hs).1, ec]; rfl
        · rw [(hS.1 s hs).2, ee]; rfl
      | true =>
        have hm := hm rfl
        refine kb_11_laysStates_183 (kt := fun z => absurd z (show ¬ am_bI true = 0 by decide)) (kf := fun _ => ?_)
        refine kb_11_laysStates_187 (hC := sp_11_spreads (nx := pw_nx p) hN o3 h17 (by rw [F.2 3 rfl]; exact h3) (fun s hs k hk => ⟨(hL s hs).2.2.2 k hk, fun t ht => pw_nx_lt ok ht⟩) hS) (k := fun r τ1 hr => ?_)
        obtain ⟨b', c', e', rfl, F1, hS1, hf, ht⟩ := hr
        refine kb_11_laysStates_191 (k := ?_)
        have l1 := am_cn_le c' N
        have l2 := am_cn_le e' N
        have l3 := am_cn_le c N
        have l4 := am_cn_le e N
        have FF : mo_LF σ τ1 := F.tr (F1.wid (by rfl) (by rfl))
        have g17 : am_I τ1 16 17 = nI N := by rw [F1.1 17 rfl]; exact h17
        have gL : ∀ s, s < N → am_A τ1 16 18 s = pw_tb p s ∧ am_A τ1 16 19 s = am_bI (pw_st p s) ∧ am_A τ1 16 20 s = am_bI (pw_bd p s) ∧ ∀ k, k < pP_K p → am_A τ1 16 23 (8 * s + k) = am_oI (-1) (pw_nx p s k) := fun s hs => by rw [F1.2 18 rfl, F1.2 19 rfl, F1.2 20 rfl, F1.2 23 rfl]; exact hL s hs
        cases hbb : b' with
        | false =>
          rw [hbb] at hf
          exact ih (m - 1) (by omega) c' e' τ1 false _ (fun q => by cases q) FF g17 gL hS1 (fun _ => hf rfl)
        | true =>
          have := ht hbb
          exact ih (2 * N + 1 - (am_cn c' N + am_cn e' N)) (by omega) c' e' τ1 true _ (fun _ => by omega) FF g17 gL hS1 (fun q => by cases q)
  have states : ∀ (j s : Nat) (τ : am_St) (a2 : Option Value), s + j = N → mo_LF σ τ → am_I τ 16 17 = nI N → ly_S τ p s → am_T true ya_11_laysStates (d + 4) Q 14 [some (.ref (am_oid 16)), some (.int (nI s)), a2] [] τ := by
    intro j
    induction j with
    | zero =>
      intro s τ a2 hs F h17 hL
      have : s = N := by omega
      subst this
      refine kb_11_laysStates_14 (kt := fun _ => kb_11_laysStates_181 (k := ?_)) (kf := fun z => absurd (by rw [h17]; exact nI_le (by omega) (by omega)) z)
      have l1 := am_cn_le (am_lN s (pw_st p)) s
      have l2 := am_cn_le (am_lN s (pw_bd p)) s
      exact spread (2 * s + 1 - (am_cn (am_lN s (pw_st p)) s + am_cn (am_lN s (pw_bd p)) s)) (am_lN s (pw_st p)) (am_lN s (pw_bd p)) τ true a2 (fun _ => by omega) F h17 (fun s' hs' => ⟨(hL s' hs').1, (hL s' hs').2.1, (hL s' hs').2.2.1, (hL s' hs').2.2.2.2.2⟩) ⟨fun s' hs' => by rw [am_lN_lt hs', am_lN_lt hs']; exact ⟨(hL s' hs').2.2.2.1, (hL s' hs').2.2.2.2.1⟩, rl_Bt.rf, rl_Bt.rf⟩ (fun q => by cases q)
    | succ j ih =>
      intro s τ a2 hs F h17 hL
      have cs : (nI s).toNatClampNeg = s := nI_clamp (by omega)
      have vs : vp_in (nI s) 600 := vp_in_nI (by omega) (by omega)
      have hPt := h.same (τ := τ) (F.2 3 rfl)
      refine kb_11_laysStates_14 (kt := fun z => absurd z (by rw [h17]; exact nI_ge (by omega) (by omega))) (kf := fun _ => ?_)
      refine kb_11_laysStates_22 (hC := sp_11_takesValues hPt.2.1 (show s < N by omega)) (k := fun r τ1 hr => ?_)
      obtain ⟨rfl, X, hτ1, hX⟩ := hr
      have F1 : mo_LF σ τ1 := by rw [hτ1]; exact F.sA (by rfl) _
      have x24 : am_A τ1 16 24 = X := by rw [hτ1, am_A_sA, if_pos ⟨rfl, rfl⟩]
      have k1 : ∀ k, k ≠ 24 → am_A τ1 16 k = am_A τ 16 k := fun k hk => by rw [hτ1, am_A_sA, if_neg (fun z => hk z.1)]
      have i17 : am_I τ1 16 17 = nI N := by rw [hτ1]; exact h17
      have hXc : ∀ c, pl_cd (pP_nv p) (pP_sg p) (pP_fm p) (pP_cf p) (pP_cn p) X c = pw_c p (pw_x p s) c := fun c => pl_cd_cg hX
      refine kb_11_laysStates_27 (hi0 := vs) (k := ?_)
      rw [cs]
      -- where each step leads
      have leads : ∀ (i k : Nat) (υ : am_St), k + i = pP_K p → mo_LF σ υ → am_I υ 16 17 = nI N → am_A υ 16 24 = X → ly_S υ p s → am_A υ 16 18 s = pw_tb p s → am_A υ 16 19 s = am_bI (pw_st p s) → am_A υ 16 20 s = am_bI (pw_bd p s) → am_A υ 16 21 s = am_bI (pw_st p s) → am_A υ 16 22 s = am_bI (pw_bd p s) → (∀ k', k' < k → am_A υ 16 23 (8 * s + k') = am_oI (-1) (pw_nx p s k')) → am_T true ya_11_laysStates (d + 4) Q 143 [some (.ref (am_oid 16)), some (.int (nI s)), some (.int (nI k))] [] υ := by
        intro i
        induction i with
        | zero =>
          intro k υ hk F' g17 g24 gL g18 g19 g20 g21 g22 gk
          have : k = pP_K p := by omega
          subst this
          refine kb_11_laysStates_143 (kt := fun _ => kb_11_laysStates_175 (k := ?_)) (kf := fun z => absurd (by rw [F'.2 3 rfl, h3]; exact nI_le (by omega) (by omega)) z)
          rw [nI_1]
          refine ih (s + 1) υ _ (by omega) F' g17 (fun s' hs' => ?_)
          by_cases c : s' = s
          · rw [c]; exact ⟨g18, g19, g20, g21, g22, gk⟩
          · exact gL s' (by omega)
        | succ i ihi =>
          intro k υ hk F' g17 g24 gL g18 g19 g20 g21 g22 gk
          have hPu := h.same (τ := υ) (F'.2 3 rfl)
          obtain ⟨-, hVu, -, -, -⟩ := id hPu
          refine kb_11_laysStates_143 (kt := fun z => absurd z (by rw [F'.2 3 rfl, h3]; exact nI_ge (by omega) (by omega))) (kf := fun _ => ?_)
          refine kb_11_laysStates_153 (hC := sp_11_lead (k := k) (by rw [F'.2 3 rfl]; exact hM) hVu (by omega) o3) (k := fun r τ2 hr => ?_)
          obtain ⟨hτ2, rfl⟩ := hr
          have en : pl_nx (pP_nv p) (pP_lo p) (pP_wd p) (pP_sg p) (pP_fm p) (pP_cf p) (pP_cn p) (pP_g p) (pP_sf p) (am_A υ 16 24) k = pw_nx p s k := by rw [g24]; exact pl_nx_cg hX
          rw [hτ2, en, am_ix8']
          refine kb_11_laysStates_168 (hi0 := vp_in_nI (by omega) (by omega)) (k := ?_)
          rw [nI_1, nI_clamp (show 8 * s + k < 2 ^ 31 by omega)]
          have n : ∀ (f : Nat → Int32) (q : Nat), q ≠ 23 → am_A (am_sA υ 16 23 f) 16 q = am_A υ 16 q := fun f q hq => by rw [am_A_sA, if_neg (fun z => hq z.1)]
          have n23 : ∀ f : Nat → Int32, am_A (am_sA υ 16 23 f) 16 23 = f := fun f => by rw [am_A_sA, if_pos ⟨rfl, rfl⟩]
          refine ihi (k + 1) _ (by omega) (F'.sA (by rfl) _) g17 (by rw [n _ 24 (by decide)]; exact g24) (fun s' hs' => ?_) (by rw [n _ 18 (by decide)]; exact g18) (by rw [n _ 19 (by decide)]; exact g19) (by rw [n _ 20 (by decide)]; exact g20) (by rw [n _ 21 (by decide)]; exact g21) (by rw [n _ 22 (by decide)]; exact g22) (fun k' hk' => ?_)
          · rw [n _ 18 (by decide), n _ 19 (by decide), n _ 20 (by decide), n _ 21 (by decide), n _ 22 (by decide)]
            obtain ⟨q1, q2, q3, q4, q5, q6⟩ := gL s' hs'
            exact ⟨q1, q2, q3, q4, q5, fun k' hk' => by rw [n23, upd_n (by omega)]; exact q6 k' hk'⟩
          · rw [n23]
            by_cases c : k' = k
            · rw [c, upd_s]
            · rw [upd_n (by omega)]; exact gk k' (by omega)
      -- the tests
      have tests : ∀ (i t : Nat) (υ : am_St), t + i = pP_T p → mo_LF σ υ → am_I υ 16 17 = nI N → am_A υ 16 24 = X → ly_S υ p s → am_A υ 16 18 s = pl_tb (fun t => pw_c p (pw_x p s) (16 + t)) t → am_T true ya_11_laysStates (d + 4) Q 36 [some (.ref (am_oid 16)), some (.int (nI s)), some (.int (nI t))] [] υ := by
        intro i
        induction i with
        | zero =>
          intro t υ ht F' g17 g24 gL g18
          have : t = pP_T p := by omega
          subst this
          have e3 := F'.2 3 rfl
          refine kb_11_laysStates_36 (kt := fun _ => ?_) (kf := fun z => absurd (by rw [e3, h4]; exact nI_le (by omega) (by omega)) z)
          refine kb_11_laysStates_81 (hC := by
            rw [e3, hV.2.2.1, show (14 : Int32) = nI 14 from rfl]
            exact sp_11_holdsOne (b := 14) (c0 := 0) (by rw [e3]; exact hM) hnv (by rw [e3]; exact hV.2.1) o1 (by decide) (by decide) (fun c hc => by rw [e3, Nat.zero_add]; exact hM.2.2.1 c hc)) (k := fun r τ2 hr => ?_)
          obtain ⟨hτ2, rfl⟩ := hr
          have es : pl_ex (fun c => pl_cd (pP_nv p) (pP_sg p) (pP_fm p) (pP_cf p) (pP_cn p) (am_A υ 16 24) (0 + c)) (pP_ns p) = pw_st p s := by
            unfold pw_st
            exact pl_ex_cg _ (fun c hc => by rw [g24, hXc, Nat.zero_add])
          rw [hτ2, es]
          have n : ∀ (f : Nat → Int32) (q : Nat), q ≠ 19 → am_A (am_sA υ 16 19 f) 16 q = am_A υ 16 q := fun f q hq => by rw [am_A_sA, if_neg (fun z => hq z.1)]
          refine kb_11_laysStates_98 (hi0 := vs) (hC := by
            rw [e3, hV.2.2.2.1, show (22 : Int32) = nI 22 from rfl]
            exact sp_11_holdsOne (b := 22) (c0 := 4) (by rw [n _ 3 (by decide), e3]; exact hM) hnv (by rw [n _ 3 (by decide), e3]; exact hV.2.1) o2 (by decide) (by decide) (fun c hc => by rw [n _ 3 (by decide), e3]; exact hM.2.2.2.1 c hc)) (k := fun r τ3 hr => ?_)
          obtain ⟨hτ3, rfl⟩ := hr
          rw [n _ 24 (by decide)]
          have eb : pl_ex (fun c => pl_cd (pP_nv p) (pP_sg p) (pP_fm p) (pP_cf p) (pP_cn p) (am_A υ 16 24) (4 + c)) (pP_nb p) = pw_bd p s := by
            unfold pw_bd
            exact pl_ex_cg _ (fun c hc => by rw [g24, hXc])
          rw [hτ3, eb]
          refine kb_11_laysStates_116 (hi0 := vs) (hi1 := vs) (hi2 := vs) (hi3 := vs) (hi4 := vs) (k := ?_)
          rw [cs, vp_nar_bI, vp_nar_bI, upd_s, vp_nar_bI, n _ 20 (by decide), n _ 21 (by decide), n _ 22 (by decide), am_A_sA υ, if_pos ⟨rfl, rfl⟩, upd_s, vp_nar_bI]
          obtain ⟨φ, hφ⟩ : ∃ φ, φ = am_sA (am_sA (am_sA (am_sA υ 16 19 (upd (am_A υ 16 19) s (am_bI (pw_st p s)))) 16 20 (upd (am_A υ 16 20) s (am_bI (pw_bd p s)))) 16 21 (upd (am_A υ 16 21) s (am_bI (pw_st p s)))) 16 22 (upd (am_A υ 16 22) s (am_bI (pw_bd p s))) := ⟨_, rfl⟩
          rw [← hφ]
          have f22 : am_A φ 16 22 = upd (am_A υ 16 22) s (am_bI (pw_bd p s)) := by rw [hφ, am_A_sA, if_pos ⟨rfl, rfl⟩]
          have f21 : am_A φ 16 21 = upd (am_A υ 16 21) s (am_bI (pw_st p s)) := by rw [hφ, am_A_sA, if_neg (by simp), am_A_sA, if_pos ⟨rfl, rfl⟩]
          have f20 : am_A φ 16 20 = upd (am_A υ 16 20) s (am_bI (pw_bd p s)) := by rw [hφ, am_A_sA, if_neg (by simp), am_A_sA, if_neg (by simp), am_A_sA, if_pos ⟨rfl, rfl⟩]
          have f19 : am_A φ 16 19 = upd (am_A υ 16 19) s (am_bI (pw_st p s)) := by rw [hφ, am_A_sA, if_neg (by simp), am_A_sA, if_neg (by simp), am_A_sA, if_neg (by simp), am_A_sA, if_pos ⟨rfl, rfl⟩]
          have fo : ∀ q, q = 18 ∨ q = 23 ∨ q = 24 → am_A φ 16 q = am_A υ 16 q := fun q hq => by
            rw [hφ]
            rcases hq with rfl | rfl | rfl
            · rw [am_A_sA, if_neg (by simp), am_A_sA, if_neg (by simp), am_A_sA, if_neg (by simp), am_A_sA, if_neg (by simp)]
            · rw [am_A_sA, if_neg (by simp), am_A_sA, if_neg (by simp), am_A_sA, if_neg (by simp), am_A_sA, if_neg (by simp)]
            · rw [am_A_sA, if_neg (by simp), am_A_sA, if_neg (by simp), am_A_sA, if_neg (by simp), am_A_sA, if_neg (by simp)]
          have := leads (pP_K p) 0 φ (by omega) (by rw [hφ]; exact (((F'.sA (by rfl) _).sA (by rfl) _).sA (by rfl) _).sA (by rfl) _) (by rw [hφ]; exact g17) (by rw [fo 24 (by simp)]; exact g24) (fun s' hs' => ?_) (by rw [fo 18 (by simp)]; exact g18) (by rw [f19, upd_s]) (by rw [f20, upd_s]) (by rw [f21, upd_s]) (by rw [f22, upd_s]) (fun k' hk' => absurd hk' (Nat.not_lt_zero k'))
          · rw [nI_0] at this
            exact this
          · rw [f19, f20, f21, f22, fo 18 (by simp), fo 23 (by simp), upd_n (by omega), upd_n (by omega), upd_n (by omega), upd_n (by omega)]
            exact gL s' hs'
        | succ i ihi =>
          intro t υ ht F' g17 g24 gL g18
          have e3 := F'.2 3 rfl
          obtain ⟨t1, t2⟩ := hM.2.2.2.2.2.1 t (by omega)
          have hcn := hM.2.1 (16 + t) (by omega)
          have e166 : (166 : Int32) + nI t = nI (166 + t) := by rw [show (166 : Int32) = nI 166 from rfl, nI_add]
          refine kb_11_laysStates_36 (kt := fun z => absurd z (by rw [e3, h4]; exact nI_ge (by omega) (by omega))) (kf := fun _ => ?_)
          refine kb_11_laysStates_46 (hi0 := by rw [e166]; exact vp_in_nI (by omega) (by omega)) (hC := by
            rw [e166, nI_clamp (show 166 + t < 2 ^ 31 by omega), e3, t1]
            exact sp_11_holdsAtom (by rw [e3]; exact hM) hnv (by rw [e3]; exact hV.2.1) (by omega)) (k := fun r τ2 hr => ?_)
          obtain ⟨hτ2, rfl⟩ := hr
          have ea : pl_at (pP_nv p) (pP_sg p) (pP_fm p) (am_A υ 16 24) (pP_cf p (16 + t)) = pw_c p (pw_x p s) (16 + t) := by rw [← hXc, pl_cd_1 t2, g24]
          rw [hτ2, ea]
          have eNx : pl_tb (fun t => pw_c p (pw_x p s) (16 + t)) (t + 1) = if pw_c p (pw_x p s) (16 + t) = true then pl_tb (fun t => pw_c p (pw_x p s) (16 + t)) t ||| (1 <<< (nI t &&& 31)) else pl_tb (fun t => pw_c p (pw_x p s) (16 + t)) t := rfl
          cases hb : pw_c p (pw_x p s) (16 + t) with
          | true =>
            rw [hb, if_pos rfl] at eNx
            refine kb_11_laysStates_60 (kt := fun z => absurd z (show ¬ am_bI true = 0 by decide)) (kf := fun _ => kb_11_laysStates_63 (hi0 := vs) (hi1 := vs) (k := kb_11_laysStates_75 (k := ?_)))
            rw [nI_1, cs, g18, ← eNx]
            have n : ∀ (f : Nat → Int32) (q : Nat), q ≠ 18 → am_A (am_sA υ 16 18 f) 16 q = am_A υ 16 q := fun f q hq => by rw [am_A_sA, if_neg (fun z => hq z.1)]
            have n18 : ∀ f : Nat → Int32, am_A (am_sA υ 16 18 f) 16 18 = f := fun f => by rw [am_A_sA, if_pos ⟨rfl, rfl⟩]
            refine ihi (t + 1) _ (by omega) (F'.sA (by rfl) _) g17 (by rw [n _ 24 (by decide)]; exact g24) (fun s' hs' => ?_) (by rw [n18, upd_s])
            rw [n18, n _ 19 (by decide), n _ 20 (by decide), n _ 21 (by decide), n _ 22 (by decide), n _ 23 (by decide), upd_n (by omega)]
            exact gL s' hs'
          | false =>
            rw [hb, if_neg (by decide)] at eNx
            refine kb_11_laysStates_60 (kf := fun z => absurd rfl z) (kt := fun _ => kb_11_laysStates_75 (k := ?_))
            rw [nI_1]
            exact ihi (t + 1) υ (by omega) F' g17 g24 gL (by rw [eNx]; exact g18)
      have n : ∀ (f : Nat → Int32) (q : Nat), q ≠ 18 → am_A (am_sA τ1 16 18 f) 16 q = am_A τ1 16 q := fun f q hq => by rw [am_A_sA, if_neg (fun z => hq z.1)]
      have n18 : ∀ f : Nat → Int32, am_A (am_sA τ1 16 18 f) 16 18 = f := fun f => by rw [am_A_sA, if_pos ⟨rfl, rfl⟩]
      have := tests (pP_T p) 0 (am_sA τ1 16 18 (upd (am_A τ1 16 18) s 0)) (by omega) (F1.sA (by rfl) _) i17 (by rw [n _ 24 (by decide)]; exact x24) (fun s' hs' => by
        rw [n18, n _ 19 (by decide), n _ 20 (by decide), n _ 21 (by decide), n _ 22 (by decide), n _ 23 (by decide), upd_n (by omega), k1 18 (by decide), k1 19 (by decide), k1 20 (by decide), k1 21 (by decide), k1 22 (by decide), k1 23 (by decide)]
        exact hL s' hs') (by rw [n18, upd_s]; rfl)
      rw [nI_0] at this
      exact this
  refine am_enter rfl (by simp [Value.category]) (Nat.le_of_ble_eq_true rfl) ?_
  refine kb_11_laysStates_0 (hC := sp_11_statesOf (lo := pP_lo p) (wd := pP_wd p) (kr := 3) rfl hnv hV.2.1 hV.2.2.2.2) (k := fun r τ hr => ?_)
  obtain ⟨rfl, rfl⟩ := hr
  refine kb_11_laysStates_9 (k := ?_)
  rw [← eN]
  have := states N 0 (am_sI τ 16 17 (nI N)) none (by omega) (mo_Fm.rf.sI (by rfl) _) (by rw [am_I_sI, if_pos ⟨rfl, rfl⟩]) (fun s hs => absurd hs (Nat.not_lt_zero s))
  rw [nI_0] at this
  exact this
end MLAYS
