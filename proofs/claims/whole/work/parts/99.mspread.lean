/-! THE REFERENCE: statesOf, spreads; values that agree -/
theorem pl_ev_cg {f x x' : Nat → Int32} : ∀ n, (∀ v, v < n → x v = x' v) → pl_ev f x n = pl_ev f x' n := by
  intro n
  induction n with
  | zero => intro _; rfl
  | succ n ih =>
    intro h
    show pl_ev f x n + f (1 + n) * x n = pl_ev f x' n + f (1 + n) * x' n
    rw [ih (fun v hv => h v (by omega)), h n (by omega)]
theorem pl_al_cg {p q : Nat → Bool} {a : Nat} (h : ∀ i, p i = q i) : ∀ n, pl_al p a n = pl_al q a n := by
  intro n
  induction n with
  | zero => rfl
  | succ n ih => show (pl_al p a n && p (a + n)) = (pl_al q a n && q (a + n)); rw [ih, h]
theorem pl_ex_cg {p q : Nat → Bool} : ∀ n, (∀ i, i < n → p i = q i) → pl_ex p n = pl_ex q n := by
  intro n
  induction n with
  | zero => intro _; rfl
  | succ n ih => intro h; show (pl_ex p n || p n) = (pl_ex q n || q n); rw [ih (fun i hi => h i (by omega)), h n (by omega)]
theorem pl_cd_cg {nv : Nat} {sg : Nat → Int32} {fm : Nat → Nat → Int32} {cf cn : Nat → Nat} {x x' : Nat → Int32} {c : Nat} (h : ∀ v, v < nv → x v = x' v) : pl_cd nv sg fm cf cn x c = pl_cd nv sg fm cf cn x' c := by
  unfold pl_cd
  refine pl_al_cg (fun i => ?_) _
  unfold pl_at
  rw [pl_ev_cg nv h]
theorem pl_nx_cg {nv : Nat} {lo : Nat → Int} {wd : Nat → Nat} {sg : Nat → Int32} {fm : Nat → Nat → Int32} {cf cn : Nat → Nat} {g : Nat → Bool} {sf : Nat → Nat → Int32} {x x' : Nat → Int32} {k : Nat} (h : ∀ v, v < nv → x v = x' v) : pl_nx nv lo wd sg fm cf cn g sf x k = pl_nx nv lo wd sg fm cf cn g sf x' k := by
  unfold pl_nx
  rw [pl_cd_cg h]
  rw [wl_s_cg (f := fun v => (pl_wv lo wd nv g sf x k v).toInt) (g := fun v => (pl_wv lo wd nv g sf x' k v).toInt) nv (fun v hv => by
    show (pl_wv lo wd nv g sf x k v).toInt = (pl_wv lo wd nv g sf x' k v).toInt
    unfold pl_wv
    rw [pl_ev_cg nv h, h v hv])]
section MSPREAD
variable {d nv ns nb N K T : Nat} {lo : Nat → Int} {wd : Nat → Nat} {nx : Nat → Nat → Option Nat} {σ : am_St}
theorem sp_11_statesOf {kr : Nat} (hkr : am_fk 11 kr = (3, 0, 1300)) (hnv : nv ≤ 3) (h0 : am_A σ 16 kr 0 = nI nv) (hb : ∀ v, v < nv → am_A σ 16 kr (8 + 2 * v) = iI (lo v) ∧ am_A σ 16 kr (8 + 2 * v + 1) = iI (lo v + wd v - 1)) : am_C true ya_11_statesOf d [.ref (am_oid 16), .ref (am_aid 16 kr)] σ (fun r τ => τ = σ ∧ r = some (.int (nI (wl_p wd nv)))) := by
  have loop : ∀ (j v : Nat), v + j = nv → am_T true ya_11_statesOf d (fun r τ => τ = σ ∧ r = some (.int (nI (wl_p wd nv)))) 4 [some (.ref (am_oid 16)), some (.ref (am_aid 16 kr)), some (.int (nI (wl_p wd v))), some (.int (nI v))] [] σ := by
    intro j
    induction j with
    | zero =>
      intro v hv
      have : v = nv := by omega
      subst this
      exact kb_11_statesOf_4 (hkr1 := rfl) (hlr1 := by decide) (hfr1 := hkr) (hi0 := by rw [← nI_0]; exact vp_in_nI (by decide) (by decide)) (kt := fun _ => kb_11_statesOf_41 ⟨rfl, rfl⟩) (kf := fun z => absurd (by rw [h0]; exact nI_le (by omega) (by omega)) z)
    | succ j ih =>
      intro v hv
      obtain ⟨b1, b2⟩ := hb v (by omega)
      have e0 : (8 : Int32) + 2 * nI v = nI (8 + 2 * v) := by rw [show (8 : Int32) = nI 8 from rfl, show (2 : Int32) = nI 2 from rfl, nI_mul, nI_add]
      refine kb_11_statesOf_4 (hkr1 := rfl) (hlr1 := by decide) (hfr1 := hkr) (hi0 := by rw [← nI_0]; exact vp_in_nI (by decide) (by decide)) (kt := fun z => absurd z (by rw [h0]; exact nI_ge (by omega) (by omega))) (kf := fun _ => ?_)
      refine kb_11_statesOf_11 (hkr1 := rfl) (hlr1 := by decide) (hfr1 := hkr) (hi0 := by rw [e0, nI_1]; exact vp_in_nI (by omega) (by omega)) (hi1 := by rw [e0]; exact vp_in_nI (by omega) (by omega)) (k := ?_)
      rw [e0, nI_1, nI_1, nI_clamp (show 8 + 2 * v + 1 < 2 ^ 31 by omega), nI_clamp (show 8 + 2 * v < 2 ^ 31 by omega), b1, b2]
      have e : iI (lo v + wd v - 1) - iI (lo v) + 1 = nI (wd v) := by
        rw [show (1 : Int32) = iI 1 from rfl, iI_sub, iI_add, ← iI_n]
        congr 1; omega
      rw [e, nI_mul]
      exact ih (v + 1) (by omega)
  refine am_enter rfl (by simp [Value.category]) (Nat.le_of_ble_eq_true rfl) (kb_11_statesOf_0 (k := ?_))
  have := loop nv 0 (by omega)
  rw [nI_0] at this
  exact this
/-- marks of what is come to, of what is doomed, so far -/
def ms_S (τ : am_St) (N K : Nat) (nx : Nat → Nat → Option Nat) (a b c e : Nat → Bool) : Prop := (∀ s, s < N → am_A τ 16 21 s = am_bI (c s) ∧ am_A τ 16 22 s = am_bI (e s)) ∧ rl_Bt (nx_R N K nx) a c ∧ rl_Bt (nx_B N K nx) b e
theorem am_cn_adm {g : Nat → Bool} {i n : Nat} : am_cn g n ≤ am_cn (fun j => j == i || g j) n := am_cn_mono (fun j hj => by simp [hj]) n
theorem sp_11_spreads {a b c0 e0 : Nat → Bool} (hN : N ≤ 600) (hK : K ≤ 8) (h5 : am_I σ 16 17 = nI N) (h3 : am_A σ 16 3 3 = nI K) (hx : ∀ s, s < N → ∀ k, k < K → am_A σ 16 23 (8 * s + k) = am_oI (-1) (nx s k) ∧ ∀ t, nx s k = some t → t < N) (h : ms_S σ N K nx a b c0 e0) : am_C true ya_11_spreads d [.ref (am_oid 16)] σ (fun r τ => ∃ (m : Bool) (c e : Nat → Bool), r = some (.int (am_bI m)) ∧ mo_Fm [] [21, 22] σ τ ∧ ms_S τ N K nx a b c e ∧ (m = false → rl_Cl (nx_R N K nx) c ∧ rl_Cl (nx_B N K nx) e) ∧ (m = true → am_cn c0 N + am_cn e0 N < am_cn c N + am_cn e N)) := by
  generalize hQ : (fun (r : Option Value) (τ : am_St) => ∃ (m : Bool) (c e : Nat → Bool), r = some (.int (am_bI m)) ∧ mo_Fm [] [21, 22] σ τ ∧ ms_S τ N K nx a b c e ∧ (m = false → rl_Cl (nx_R N K nx) c ∧ rl_Cl (nx_B N K nx) e) ∧ (m = true → am_cn c0 N + am_cn e0 N < am_cn c N + am_cn e N)) = Q
  -- what is known of the edges before s, k
  have outer : ∀ (j s : Nat) (m : Bool) (c e : Nat → Bool) (τ : am_St) (a3 a4 : Option Value), s + j = N → mo_Fm [] [21, 22] σ τ → ms_S τ N K nx a b c e → (m = false → ∀ s', s' < s → ∀ k, k < K → ∀ t, nx s' k = some t → (c s' = true → c t = true) ∧ (e t = true → e s' = true)) → (m = true → am_cn c0 N + am_cn e0 N < am_cn c N + am_cn e N) → (m = false → c = c0 ∧ e = e0) → am_T true ya_11_spreads d Q 4 [some (.ref (am_oid 16)), some (.int (am_bI m)), some (.int (nI s)), a3, a4] [] τ := by
    intro j
    induction j with
    | zero =>
      intro s m c e τ a3 a4 hs F hS hm0 hm1 _
      have : s = N := by omega
      subst this
      refine kb_11_spreads_4 (kt := fun _ => kb_11_spreads_115 (hb0 := by cases m <;> rfl) (hq := ?_)) (kf := fun z => absurd (by rw [F.1 17 rfl, h5]; exact nI_le (by omega) (by omega)) z)
      rw [← hQ]
      refine ⟨m, c, e, rfl, F, hS, fun hm => ⟨fun s' t hr hc => ?_, fun t s' hr hc => ?_⟩, hm1⟩
      · obtain ⟨b1, k, b2, b3⟩ := hr
        exact (hm0 hm s' b1 k b2 t b3).1 hc
      · obtain ⟨b1, k, b2, b3⟩ := hr
        exact (hm0 hm s' b1 k b2 t b3).2 hc
    | succ j ih =>
      intro s m c e τ a3 a4 hs F hS hm0 hm1 hme
      refine kb_11_spreads_4 (kt := fun z => absurd z (by rw [F.1 17 rfl, h5]; exact nI_ge (by omega) (by omega))) (kf := fun _ => kb_11_spreads_12 (k := ?_))
      have inner : ∀ (i k : Nat) (m : Bool) (c e : Nat → Bool) (υ : am_St) (b4 : Option Value), k + i = K → mo_Fm [] [21, 22] σ υ → ms_S υ N K nx a b c e → (m = false → ∀ s', s' < s → ∀ k, k < K → ∀ t, nx s' k = some t → (c s' = true → c t = true) ∧ (e t = true → e s' = true)) → (m = false → ∀ k', k' < k → ∀ t, nx s k' = some t → (c s = true → c t = true) ∧ (e t = true → e s = true)) → (m = true → am_cn c0 N + am_cn e0 N < am_cn c N + am_cn e N) → (m = false → c = c0 ∧ e = e0) → am_T true ya_11_spreads d Q 14 [some (.ref (am_oid 16)), some (.int (am_bI m)), some (.int (nI s)), some (.int (nI k)), b4] [] υ := by
        intro i
        induction i with
        | zero =>
          intro k m c e υ b4 hk F' hS' hm0' hmk hm1' hme'
          have : k = K := by omega
          subst this
          refine kb_11_spreads_14 (kt := fun _ => kb_11_spreads_109 (k := ?_)) (kf := fun z => absurd (by rw [F'.2 3 rfl, h3]; exact nI_le (by omega) (by omega)) z)
          rw [nI_1]
          refine ih (s + 1) m c e υ _ _ (by omega) F' hS' (fun hm s' hs' k' hk' t ht => ?_) hm1' hme'
          by_cases q : s' = s
          · rw [q] at ht ⊢; exact hmk hm k' hk' t ht
          · exact hm0' hm s' (by omega) k' hk' t ht
        | succ i ihi =>
          intro k m c e υ b4 hk F' hS' hm0' hmk hm1' hme'
          obtain ⟨x1, x2⟩ := hx s (by omega) k (by omega)
          have eT : am_A υ 16 23 (8 * nI s + nI k).toNatClampNeg = am_oI (-1) (nx s k) := by rw [am_ix8', nI_clamp (by omega), F'.2 23 rfl]; exact x1
          refine kb_11_spreads_14 (kt := fun z => absurd z (by rw [F'.2 3 rfl, h3]; exact nI_ge (by omega) (by omega))) (kf := fun _ => ?_)
          refine kb_11_spreads_24 (hi0 := by rw [am_ix8']; exact vp_in_nI (by omega) (by omega)) (kt := fun z => ?_) (kf := fun z => ?_)
          · rw [eT] at z
            cases hn : nx s k with
            | none => rw [hn] at z; exact absurd rfl z
            | some t =>
              have htN := x2 t hn
              have eT' : am_A υ 16 23 (8 * nI s + nI k).toNatClampNeg = nI t := by rw [eT, hn]; rfl
              rw [eT']
              have cs : (nI s).toNatClampNeg = s := nI_clamp (by omega)
              have ct : (nI t).toNatClampNeg = t := nI_clamp (by omega)
              have vs : vp_in (nI s) 600 := vp_in_nI (by omega) (by omega)
              have vt : vp_in (nI t) 600 := vp_in_nI (by omega) (by omega)
              have hRt : nx_R N K nx s t := ⟨by omega, k, by omega, hn⟩
              -- the doomed, once the come-to are settled at this edge
              have second : ∀ (m' : Bool) (c' : Nat → Bool) (φ : am_St), mo_Fm [] [21, 22] σ φ → ms_S φ N K nx a b c' e → (m' = false → m = false ∧ c' = c ∧ (c s = true → c t = true)) → (m' = true → am_cn c0 N + am_cn e0 N < am_cn c' N + am_cn e N) → am_T true ya_11_spreads d Q 75 [some (.ref (am_oid 16)), some (.int (am_bI m')), some (.int (nI s)), some (.int (nI k)), some (.int (nI t))] [] φ := by
                intro m' c' φ Fφ hSφ hm' hm1''
                have hN2 := hSφ.1
                have goOn : (m' = false → (e t = true → e s = true)) → am_T true ya_11_spreads d Q 103 [some (.ref (am_oid 16)), some (.int (am_bI m')), some (.int (nI s)), some (.int (nI k)), some (.int (nI t))] [] φ := fun he => by
                  refine kb_11_spreads_103 (k := ?_)
                  rw [nI_1]
                  refine ihi (k + 1) m' c' e φ _ (by omega) Fφ hSφ (fun q s' hs' k' hk' t' ht' => ?_) (fun q k' hk' t' ht' => ?_) hm1'' (fun q => ?_)
                  · obtain ⟨q1, q2, q3⟩ := hm' q
                    rw [q2]; exact hm0' q1 s' hs' k' hk' t' ht'
                  · obtain ⟨q1, q2, q3⟩ := hm' q
                    rw [q2]
                    by_cases w : k' = k
                    · rw [w, hn] at ht'
                      injection ht' with ht'
                      rw [← ht']; exact ⟨q3, he q⟩
                    · exact hmk q1 k' (by omega) t' ht'
                  · obtain ⟨q1, q2, q3⟩ := hm' q
                    rw [q2]; exact hme' q1
                refine kb_11_spreads_75 (hi0 := vt) (kt := fun y => goOn (fun _ w => ?_)) (kf := fun y => ?_)
                · rw [ct, (hN2 t htN).2, am_bI_0] at y
                  rw [y] at w; cases w
                rw [ct, (hN2 t htN).2, am_bI_0] at y
                have y' : e t = true := by simpa using y
                refine kb_11_spreads_85 (hi0 := vs) (kt := fun w => goOn (fun _ _ => ?_)) (kf := fun w => ?_)
                · rw [cs, (hN2 s (by omega)).2, am_bI_0] at w
                  simpa using w
                rw [cs, (hN2 s (by omega)).2, am_bI_0] at w
                refine kb_11_spreads_94 (hi0 := vs) (k := kb_11_spreads_103 (k := ?_))
                rw [nI_1, cs, show vp_nar .boolean 1 = am_bI true from by decide]
                obtain ⟨ψ, hψ⟩ : ∃ ψ, ψ = am_sA φ 16 22 (upd (am_A φ 16 22) s (am_bI true)) := ⟨_, rfl⟩
                rw [← hψ]
                have g22 : am_A ψ 16 22 = upd (am_A φ 16 22) s (am_bI true) := by rw [hψ, am_A_sA, if_pos ⟨rfl, rfl⟩]
                have g21 : am_A ψ 16 21 = am_A φ 16 21 := by rw [hψ, am_A_sA, if_neg (by simp)]
                have eC := am_cn_or1 (g := e) (n := N) (show s < N by omega) w
                refine ihi (k + 1) true c' (fun j => j == s || e j) ψ _ (by omega) (by rw [hψ]; exact Fφ.sA (by rfl) _) ⟨fun s' hs' => ?_, hSφ.2.1, hSφ.2.2.add (s := t) (t := s) hRt y'⟩ (fun q => by cases q) (fun q => by cases q) (fun _ => ?_) (fun q => by cases q)
                · rw [g21, g22]
                  refine ⟨(hN2 s' hs').1, ?_⟩
                  by_cases q : s' = s
                  · rw [q, upd_s]; simp
                  · rw [upd_n q, (hN2 s' hs').2]
                    have : (s' == s) = false := by simpa using q
                    simp [this]
                · rw [eC]
                  cases hmm : m' with
                  | true => have := hm1'' hmm; omega
                  | false =>
                    obtain ⟨q1, q2, q3⟩ := hm' hmm
                    obtain ⟨q4, q5⟩ := hme' q1
                    rw [q2, q4, q5]; omega
              refine kb_11_spreads_46 (hi0 := vs) (kt := fun y => ?_) (kf := fun y => ?_)
              · rw [cs, (hS'.1 s (by omega)).1, am_bI_0] at y
                exact second m c υ F' hS' (fun q => ⟨q, rfl, fun w => by rw [y] at w; cases w⟩) hm1'
              rw [cs, (hS'.1 s (by omega)).1, am_bI_0] at y
              have y' : c s = true := by simpa using y
              refine kb_11_spreads_55 (hi0 := vt) (kt := fun w => ?_) (kf := fun w => ?_)
              · rw [ct, (hS'.1 t htN).1, am_bI_0] at w
                exact second m c υ F' hS' (fun q => ⟨q, rfl, fun _ => by simpa using w⟩) hm1'
              rw [ct, (hS'.1 t htN).1, am_bI_0] at w
              refine kb_11_spreads_65 (hi0 := vt) (k := ?_)
              rw [ct, show vp_nar .boolean 1 = am_bI true from by decide]
              obtain ⟨ψ, hψ⟩ : ∃ ψ, ψ = am_sA υ 16 21 (upd (am_A υ 16 21) t (am_bI true)) := ⟨_, rfl⟩
              rw [← hψ]
              have g21 : am_A ψ 16 21 = upd (am_A υ 16 21) t (am_bI true) := by rw [hψ, am_A_sA, if_pos ⟨rfl, rfl⟩]
              have g22 : am_A ψ 16 22 = am_A υ 16 22 := by rw [hψ, am_A_sA, if_neg (by simp)]
              have eC := am_cn_or1 (g := c) (n := N) htN w
              refine second true (fun j => j == t || c j) ψ (by rw [hψ]; exact F'.sA (by rfl) _) ⟨fun s' hs' => ?_, hS'.2.1.add hRt y', hS'.2.2⟩ (fun q => by cases q) (fun _ => ?_)
              · rw [g21, g22]
                refine ⟨?_, (hS'.1 s' hs').2⟩
                by_cases q : s' = t
                · rw [q, upd_s]; simp
                · rw [upd_n q, (hS'.1 s' hs').1]
                  have : (s' == t) = false := by simpa using q
                  simp [this]
              · rw [eC]
                cases hmm : m with
                | true => have := hm1' hmm; omega
                | false =>
                  obtain ⟨q4, q5⟩ := hme' hmm
                  rw [q4, q5]; omega
          · rw [eT, am_oI_m1 x2 hN] at z
            refine kb_11_spreads_43 (k := kb_11_spreads_103 (k := ?_))
            rw [nI_1]
            refine ihi (k + 1) m c e υ _ (by omega) F' hS' hm0' (fun q k' hk' t' ht' => ?_) hm1' hme'
            by_cases w : k' = k
            · rw [w, z] at ht'; cases ht'
            · exact hmk q k' (by omega) t' ht'
      have := inner K 0 m c e τ a4 (by omega) F hS hm0 (fun _ k' hk' => absurd hk' (Nat.not_lt_zero k')) hm1 hme
      rw [nI_0] at this
      exact this
  refine am_enter rfl (by simp [Value.category]) (Nat.le_of_ble_eq_true rfl) (kb_11_spreads_0 (k := ?_))
  have := outer N 0 false c0 e0 σ none none (by omega) mo_Fm.rf h (fun _ s hs => absurd hs (Nat.not_lt_zero s)) (fun q => by cases q) (fun _ => ⟨rfl, rfl⟩)
  rw [nI_0] at this
  exact this
end MSPREAD
