/-! THE REFERENCE: areAll, laysTogether -/
section MTOG
variable {d N K T : Nat} {tb : Nat → Int32} {fl : Nat → Nat → Bool} {nx : Nat → Nat → Option Nat} {σ : am_St}
theorem mo_Fr.s2 (p : tg_T) : mo_Fr [46, 47] [] σ (am_s2 σ 16 46 47 p) := (mo_Fr.rf.sI (by rfl) _).sI (by rfl) _
theorem mo_Wo.s2 (hW : mo_Wo σ N K T tb fl nx) (p : tg_T) : mo_Wo (am_s2 σ 16 46 47 p) N K T tb fl nx := hW.same (mo_Fr.s2 p) rfl (fun k _ => rfl)
theorem sp_11_areAll (hW : mo_Wo σ N K T tb fl nx) {s : Nat} (hs : s < N) (p : tg_T) (h2 : am_I σ 16 46 = p.1) (h3 : am_I σ 16 47 = p.2) : am_C true ya_11_areAll d [.ref (am_oid 16), .int (nI s)] σ (fun r τ => τ = σ ∧ r = some (.int (am_bI (tg_so (tb s) p)))) := by
  have hN := hW.1
  have e := (hW.2.2.2.2.2.2.1 s hs).1
  have c : am_A σ 16 18 (nI s).toNatClampNeg = tb s := by rw [nI_clamp (by omega)]; exact e
  refine am_enter rfl (by simp [Value.category]) (Nat.le_of_ble_eq_true rfl) ?_
  refine kb_11_areAll_0 (hi0 := vp_in_nI (by omega) (by omega)) (kt := fun z => ?_) (kf := fun z => ?_)
  · rw [c, h2] at z
    refine kb_11_areAll_36 (k := kb_11_areAll_37 (hb0 := rfl) (hq := ⟨rfl, ?_⟩))
    unfold tg_so
    rw [decide_eq_false z]; rfl
  · rw [c, h2] at z
    refine kb_11_areAll_18 (hi0 := vp_in_nI (by omega) (by omega)) (kt := fun y => ?_) (kf := fun y => ?_)
    · rw [c, h3] at y
      refine kb_11_areAll_36 (k := kb_11_areAll_37 (hb0 := rfl) (hq := ⟨rfl, ?_⟩))
      unfold tg_so
      rw [decide_eq_false y, Bool.and_false]; rfl
    · rw [c, h3] at y
      refine kb_11_areAll_32 (k := kb_11_areAll_37 (hb0 := rfl) (hq := ⟨rfl, ?_⟩))
      unfold tg_so
      rw [decide_eq_true y, decide_eq_true z]; rfl
/-- fewer are asked: it is so still -/
theorem tg_so_le {x : Int32} {p q : tg_T} (h : tg_le p q) (hs : tg_so x q = true) : tg_so x p = true := by
  unfold tg_so at hs ⊢
  rw [Bool.and_eq_true_iff, decide_eq_true_iff, decide_eq_true_iff] at hs ⊢
  obtain ⟨h1, h2⟩ := hs
  refine ⟨b_ext (fun i _ => ?_), b_ext (fun i _ => ?_)⟩
  · rw [b_and]
    cases hp : bt p.1 i
    · simp
    · have := h.1 i hp
      rw [← h1, b_and] at this
      simp [(Bool.and_eq_true_iff.mp this).1]
  · rw [b_and, b_0]
    cases hp : bt p.2 i
    · simp
    · have := h.2 i hp
      have h3 : bt (x &&& q.2) i = false := by rw [h2, b_0]
      rw [b_and, this] at h3
      simpa using h3
theorem i32_and_m1 (x : Int32) : x &&& -1 = x := b_ext (fun i hi => by rw [b_and, b_m1 i hi, Bool.and_true])
theorem am_ix8' (s k : Nat) : (8 : Int32) * nI s + nI k = nI (8 * s + k) := by rw [show (8 : Int32) = nI 8 from rfl, nI_mul, nI_add]
theorem sp_11_laysTogether (hW : mo_Wo σ N K T tb fl nx) : am_C true ya_11_laysTogether (d + 1) [.ref (am_oid 16)] σ (fun r τ => r = none ∧ τ = am_s2 σ 16 46 47 (tg_fin N K T tb fl nx)) := by
  obtain ⟨w1, w2, w3, w4, w5, w6, w7, w8⟩ := id hW
  have i17 : ∀ p, am_I (am_s2 σ 16 46 47 p) 16 17 = nI N := fun p => by rw [(mo_Fr.s2 (σ := σ) p).1 17 rfl]; exact w4
  generalize hQ : (fun (r : Option Value) (τ : am_St) => r = none ∧ τ = am_s2 σ 16 46 47 (tg_fin N K T tb fl nx)) = Q
  have e46 : ∀ p, am_I (am_s2 σ 16 46 47 p) 16 46 = p.1 := fun p => am_s2_1 _ _ _ _ _ (by decide)
  have e47 : ∀ p, am_I (am_s2 σ 16 46 47 p) 16 47 = p.2 := fun p => am_s2_2 _ _ _ _ _
  -- one pass
  have pass : ∀ (p : tg_T), (∀ (a4 a5 a6 : Option Value), am_T true ya_11_laysTogether (d + 1) Q 217 [some (.ref (am_oid 16)), some (.int 1), some (.int p.1), some (.int p.2), a4, a5, a6] [] (am_s2 σ 16 46 47 (tg_ps tb nx K N p))) → ∀ (j s : Nat), s + j = N → ∀ (a5 a6 : Option Value), am_T true ya_11_laysTogether (d + 1) Q 115 [some (.ref (am_oid 16)), some (.int 1), some (.int p.1), some (.int p.2), some (.int (nI s)), a5, a6] [] (am_s2 σ 16 46 47 (tg_ps tb nx K s p)) := by
    intro p kk j
    induction j with
    | zero =>
      intro s hs a5 a6
      have : s = N := by omega
      subst this
      refine kb_11_laysTogether_115 (kt := fun _ => kk _ _ _) (kf := fun z => absurd ?_ z)
      rw [i17]; exact nI_le (by omega) (by omega)
    | succ j ih =>
      intro s hs a5 a6
      obtain ⟨p', hp'⟩ : ∃ p', p' = tg_ps tb nx K s p := ⟨_, rfl⟩
      rw [← hp']
      have e1 : tg_ps tb nx K (s + 1) p = if tg_so (tb s) p' = true then tg_k tb nx s K p' else p' := by rw [hp']; rfl
      have next := ih (s + 1) (by omega)
      rw [e1] at next
      refine kb_11_laysTogether_115 (kt := fun z => absurd z ?_) (kf := fun _ => ?_)
      · rw [i17]; exact nI_ge (by omega) (by omega)
      refine kb_11_laysTogether_124 (k := ?_)
      cases hc : tg_so (tb s) p' with
      | false =>
        rw [hc, if_neg (by decide)] at next
        by_cases hK : K = 0
        · refine kb_11_laysTogether_127 (kt := fun _ => kb_11_laysTogether_211 (k := ?_)) (kf := fun z => absurd ?_ z)
          · rw [nI_1]; exact next _ _
          · show am_A σ 16 3 3 ≤ 0
            rw [w5, hK, nI_0]; exact Int32.le_refl 0
        · refine kb_11_laysTogether_127 (kt := fun z => absurd z ?_) (kf := fun _ => ?_)
          · show ¬ am_A σ 16 3 3 ≤ 0
            rw [w5]; exact nI_nle (by omega) (by omega)
          · refine kb_11_laysTogether_138 (hC := sp_11_areAll (hW.s2 p') (show s < N by omega) p' (e46 _) (e47 _)) (k := fun r τ hr => ?_)
            obtain ⟨rfl, rfl⟩ := hr
            rw [hc]
            refine kb_11_laysTogether_144 (kt := fun _ => kb_11_laysTogether_211 (k := ?_)) (kf := fun z => absurd rfl z)
            rw [nI_1]; exact next _ _
      | true =>
        rw [hc, if_pos rfl] at next
        have inner : ∀ (m k : Nat), k + m = K → ∀ a6 : Option Value, am_T true ya_11_laysTogether (d + 1) Q 127 [some (.ref (am_oid 16)), some (.int 1), some (.int p.1), some (.int p.2), some (.int (nI s)), some (.int (nI k)), a6] [] (am_s2 σ 16 46 47 (tg_k tb nx s k p')) := by
          intro m
          induction m with
          | zero =>
            intro k hk a6
            have : k = K := by omega
            subst this
            refine kb_11_laysTogether_127 (kt := fun _ => kb_11_laysTogether_211 (k := ?_)) (kf := fun z => absurd ?_ z)
            · rw [nI_1]; exact next _ _
            · show am_A σ 16 3 3 ≤ _
              rw [w5]; exact nI_le (by omega) (by omega)
          | succ m ihm =>
            intro k hk a6
            obtain ⟨g1, g2⟩ := w8 s (by omega) k (by omega)
            have eT : am_A (am_s2 σ 16 46 47 (tg_k tb nx s k p')) 16 23 ((8 : Int32) * nI s + nI k).toNatClampNeg = am_oI (-1) (nx s k) := by rw [am_ix8', nI_clamp (by omega)]; exact g1
            refine kb_11_laysTogether_127 (kt := fun z => absurd z ?_) (kf := fun _ => ?_)
            · show ¬ am_A σ 16 3 3 ≤ _
              rw [w5]; exact nI_ge (by omega) (by omega)
            refine kb_11_laysTogether_138 (hC := sp_11_areAll (hW.s2 _) (show s < N by omega) _ (e46 _) (e47 _)) (k := fun r τ hr => ?_)
            obtain ⟨rfl, rfl⟩ := hr
            rw [tg_so_le (tg_k_le tb nx s k p') hc]
            refine kb_11_laysTogether_144 (kt := fun z => absurd z (by decide)) (kf := fun _ => ?_)
            refine kb_11_laysTogether_147 (hi0 := by rw [am_ix8']; exact vp_in_nI (by omega) (by omega)) (kt := fun z => ?_) (kf := fun z => ?_)
            · rw [eT, am_oI_m1 g2 w1] at z
              rw [eT]
              cases hx : nx s k with
              | none => exact absurd hx z
              | some t =>
                have ht := g2 t hx
                have e : tg_k tb nx s (k + 1) p' = tg_kp (tb t) (tg_k tb nx s k p') := by
                  show (match nx s k with | none => _ | some t => _) = _
                  rw [hx]
                have := ihm (k + 1) (by omega)
                rw [e] at this
                show am_T _ _ _ _ _ [_, _, _, _, _, _, some (.int (nI t))] _ _
                have v : vp_in (nI t) 600 := vp_in_nI (by omega) (by omega)
                refine kb_11_laysTogether_171 (hi0 := v) (hi1 := v) (k := kb_11_laysTogether_205 (k := ?_))
                rw [nI_1, e46, e47, am_s2_A, nI_clamp (by omega), (w7 t ht).1, am_s2_s2]
                exact this _
            · rw [eT, am_oI_m1 g2 w1] at z
              refine kb_11_laysTogether_168 (k := kb_11_laysTogether_205 (k := ?_))
              rw [nI_1]
              have e : tg_k tb nx s (k + 1) p' = tg_k tb nx s k p' := by
                show (match nx s k with | none => _ | some t => _) = _
                rw [z]
              have := ihm (k + 1) (by omega)
              rw [e] at this
              exact this _
        have := inner K 0 (by omega) a6
        rw [nI_0] at this
        exact this
  have run : ∀ (f : Nat) (p : tg_T), tg_sz p + 1 ≤ f → tg_rn (tg_ps tb nx K N) f p = tg_fin N K T tb fl nx → ∀ (a2 a3 a4 a5 a6 : Option Value), am_T true ya_11_laysTogether (d + 1) Q 98 [some (.ref (am_oid 16)), some (.int 1), a2, a3, a4, a5, a6] [] (am_s2 σ 16 46 47 p) := by
    intro f
    induction f with
    | zero => intro p h; omega
    | succ f ih =>
      intro p h1 h3 a2 a3 a4 a5 a6
      have hle := tg_ps_le tb nx K N p
      refine kb_11_laysTogether_98 (kt := fun z => absurd z (by decide)) (kf := fun _ => kb_11_laysTogether_102 (k := ?_))
      rw [e46, e47]
      have := pass p (fun b4 b5 b6 => ?_) N 0 (by omega) a5 a6
      · rw [nI_0] at this
        exact this
      · have more : tg_ps tb nx K N p ≠ p → am_T true ya_11_laysTogether (d + 1) Q 233 [some (.ref (am_oid 16)), some (.int 1), some (.int p.1), some (.int p.2), b4, b5, b6] [] (am_s2 σ 16 46 47 (tg_ps tb nx K N p)) := fun hn => by
          have hlt := hle.lt hn
          refine kb_11_laysTogether_233 (k := kb_11_laysTogether_238 (k := ?_))
          refine ih _ (by omega) ?_ _ _ _ _ _
          rw [← h3]
          show _ = (if tg_ps tb nx K N p = p then p else tg_rn (tg_ps tb nx K N) f (tg_ps tb nx K N p))
          rw [if_neg hn]
        refine kb_11_laysTogether_217 (kt := fun y => ?_) (kf := fun y => ?_)
        · rw [e46] at y
          exact more (fun c => y (by rw [c]))
        · rw [e46] at y
          refine kb_11_laysTogether_225 (kt := fun x => ?_) (kf := fun x => ?_)
          · rw [e47] at x
            have hp : tg_ps tb nx K N p = p := Prod.ext y.symm x.symm
            have hf : p = tg_fin N K T tb fl nx := by
              rw [← h3]
              show _ = (if tg_ps tb nx K N p = p then p else _)
              rw [if_pos hp]
            rw [hp]
            refine kb_11_laysTogether_237 (k := kb_11_laysTogether_238 (k := kb_11_laysTogether_98 (kt := fun _ => kb_11_laysTogether_242 ?_) (kf := fun c => absurd rfl c)))
            rw [← hQ, ← hf]
            exact ⟨rfl, rfl⟩
          · rw [e47] at x
            exact more (fun c => x (by rw [c]))
  have starts : ∀ (j s : Nat), s + j = N → ∀ (a2 a3 a4 a5 a6 : Option Value), am_T true ya_11_laysTogether (d + 1) Q 24 [some (.ref (am_oid 16)), some (.int (nI s)), a2, a3, a4, a5, a6] [] (am_s2 σ 16 46 47 (tg_st tb fl s (tg_al T, tg_al T))) := by
    intro j
    induction j with
    | zero =>
      intro s hs a2 a3 a4 a5 a6
      have : s = N := by omega
      subst this
      refine kb_11_laysTogether_24 (kt := fun _ => kb_11_laysTogether_96 (k := ?_)) (kf := fun z => absurd ?_ z)
      · exact run 33 (tg_st tb fl s (tg_al T, tg_al T)) (by have := tg_st_sz (N := s) (tb := tb) (fl := fl) w3; omega) rfl _ _ _ _ _
      · rw [i17]; exact nI_le (by omega) (by omega)
    | succ j ih =>
      intro s hs a2 a3 a4 a5 a6
      obtain ⟨p, hp⟩ : ∃ p, p = tg_st tb fl s (tg_al T, tg_al T) := ⟨_, rfl⟩
      rw [← hp]
      obtain ⟨g1, g2, -⟩ := w7 s (by omega)
      have v : vp_in (nI s) 600 := vp_in_nI (by omega) (by omega)
      have eF : ∀ q, am_A (am_s2 σ 16 46 47 q) 16 19 (nI s).toNatClampNeg = am_bI (fl s 0) := fun q => by rw [nI_clamp (by omega)]; exact g2
      have eB : ∀ q, am_A (am_s2 σ 16 46 47 q) 16 18 (nI s).toNatClampNeg = tb s := fun q => by rw [nI_clamp (by omega)]; exact g1
      have e1 : tg_st tb fl (s + 1) (tg_al T, tg_al T) = if fl s 0 = true then tg_kp (tb s) p else p := by rw [hp]; rfl
      have next := ih (s + 1) (by omega)
      rw [e1] at next
      have half : ∀ a b : Int32, am_sI (am_sI (am_s2 σ 16 46 47 p) 16 46 a) 16 47 b = am_s2 σ 16 46 47 (a, b) := fun a b => am_s2_s2 _ _ _ _ _ _ _
      refine kb_11_laysTogether_24 (kt := fun z => absurd z ?_) (kf := fun _ => ?_)
      · rw [i17]; exact nI_ge (by omega) (by omega)
      cases hf : fl s 0 with
      | true =>
        rw [hf, if_pos rfl] at next
        refine kb_11_laysTogether_32 (hi0 := v) (kt := fun z => absurd z ?_) (kf := fun _ => ?_)
        · rw [eF, hf]; decide
        refine kb_11_laysTogether_46 (hi0 := v) (k := kb_11_laysTogether_56 (hi0 := v) (kt := fun z => absurd z ?_) (kf := fun _ => ?_))
        · rw [eF, hf]; decide
        refine kb_11_laysTogether_74 (hi0 := v) (k := kb_11_laysTogether_86 (k := ?_))
        rw [nI_1, e46, e47, half]
        rw [eB, am_A_sI, eB]
        exact next _ _ _ _ _
      | false =>
        rw [hf, if_neg (by decide)] at next
        refine kb_11_laysTogether_32 (hi0 := v) (kt := fun _ => ?_) (kf := fun z => absurd ?_ z)
        · refine kb_11_laysTogether_55 (k := kb_11_laysTogether_56 (hi0 := v) (kt := fun _ => ?_) (kf := fun z => absurd ?_ z))
          · refine kb_11_laysTogether_85 (k := kb_11_laysTogether_86 (k := ?_))
            rw [nI_1, e46, e47, half, i32_and_m1, i32_and_m1]
            exact next _ _ _ _ _
          · rw [eF, hf]; rfl
        · rw [eF, hf]; rfl
  refine am_enter rfl (by simp [Value.category]) (Nat.le_of_ble_eq_true rfl) (kb_11_laysTogether_0 (k := ?_))
  rw [w6]
  have := starts N 0 (by omega) none none none none none
  rw [nI_0] at this
  exact this
theorem sp_11_together (hW : mo_Wo σ N K T tb fl nx) (x : Int32) : am_C true ya_11_together (d + 2) [.ref (am_oid 16), .int x] σ (fun r τ => r = some (.int (if x < 0 ∨ ¬ x ≤ 1 then -1 else if x = 1 then (tg_fin N K T tb fl nx).1 else (tg_fin N K T tb fl nx).2)) ∧ mo_Fr [0, 46, 47] [] σ τ) := by
  have f0 : mo_Fr [0, 46, 47] [] σ (am_sI σ 16 0 0) := mo_Fr.rf.sI (by rfl) _
  have hW0 : mo_Wo (am_sI σ 16 0 0) N K T tb fl nx := hW.same f0 rfl (fun k _ => rfl)
  refine am_enter rfl (by simp [Value.category]) (Nat.le_of_ble_eq_true rfl) ?_
  refine kb_11_together_0 (kt := fun z => kb_11_together_14 ⟨?_, f0⟩) (kf := fun z => ?_)
  · rw [if_pos (Or.inl z)]
  · refine kb_11_together_9 (kt := fun y => ?_) (kf := fun y => kb_11_together_14 ⟨?_, f0⟩)
    · rw [if_neg (fun c => c.elim z (fun c => c y))]
      refine kb_11_together_16 (hC := sp_11_laysTogether hW0) (k := fun r τ hr => ?_)
      obtain ⟨rfl, rfl⟩ := hr
      have f1 : mo_Fr [0, 46, 47] [] σ (am_s2 (am_sI σ 16 0 0) 16 46 47 (tg_fin N K T tb fl nx)) := (f0.sI (by rfl) _).sI (by rfl) _
      refine kb_11_together_20 (kt := fun c => ?_) (kf := fun c => ?_)
      · rw [if_neg c]
        refine kb_11_together_32 (k := kb_11_together_36 ⟨?_, f1⟩)
        rw [am_s2_2]
      · rw [if_pos c]
        refine kb_11_together_25 (k := kb_11_together_36 ⟨?_, f1⟩)
        rw [am_s2_1 _ _ _ _ _ (by decide)]
    · rw [if_pos (Or.inr y)]
theorem sp_11_togetherProves (hW : mo_Wo σ N K T tb fl nx) : am_C true ya_11_togetherProves (d + 2) [.ref (am_oid 16)] σ (fun r τ => r = some (.int (am_bI (!tg_bd N tb fl (tg_fin N K T tb fl nx)))) ∧ mo_Fr [0, 46, 47] [] σ τ) := by
  have f0 : mo_Fr [0, 46, 47] [] σ (am_sI σ 16 0 0) := mo_Fr.rf.sI (by rfl) _
  have hW0 : mo_Wo (am_sI σ 16 0 0) N K T tb fl nx := hW.same f0 rfl (fun k _ => rfl)
  obtain ⟨p, hp⟩ : ∃ p, p = tg_fin N K T tb fl nx := ⟨_, rfl⟩
  refine am_enter rfl (by simp [Value.category]) (Nat.le_of_ble_eq_true rfl) ?_
  refine kb_11_togetherProves_0 (hC := sp_11_laysTogether hW0) (k := fun r τ hr => ?_)
  rw [← hp] at hr ⊢
  obtain ⟨rfl, hτ⟩ := hr
  have f1 : mo_Fr [0, 46, 47] [] σ τ := by rw [hτ]; exact (f0.sI (by rfl) _).sI (by rfl) _
  have hW1 : mo_Wo τ N K T tb fl nx := hW.same f1 rfl (fun k _ => rfl)
  have h2 : am_I τ 16 46 = p.1 := by rw [hτ]; exact am_s2_1 _ _ _ _ _ (by decide)
  have h3 : am_I τ 16 47 = p.2 := by rw [hτ]; exact am_s2_2 _ _ _ _ _
  obtain ⟨w1, w2, w3, w4, w5, w6, w7, w8⟩ := id hW1
  have loop : ∀ (j s : Nat), s + j = N → am_T true ya_11_togetherProves (d + 2) (fun r τ => r = some (.int (am_bI (!(am_fd (fun s => fl s 1 && tg_so (tb s) p) j s).isSome))) ∧ mo_Fr [0, 46, 47] [] σ τ) 11 [some (.ref (am_oid 16)), some (.int (nI s))] [] τ := by
    intro j
    induction j with
    | zero =>
      intro s hs
      refine kb_11_togetherProves_11 (kt := fun _ => kb_11_togetherProves_44 ⟨rfl, f1⟩) (kf := fun z => absurd ?_ z)
      rw [w4]; exact nI_le (by omega) (by omega)
    | succ j ih =>
      intro s hs
      obtain ⟨g1, -, g2, -⟩ := w7 s (by omega)
      have eF : am_A τ 16 20 (nI s).toNatClampNeg = am_bI (fl s 1) := by rw [nI_clamp (by omega)]; exact g2
      have e1 : am_fd (fun s => fl s 1 && tg_so (tb s) p) (j + 1) s = if (fl s 1 && tg_so (tb s) p) = true then some s else am_fd (fun s => fl s 1 && tg_so (tb s) p) j (s + 1) := rfl
      rw [e1]
      have next := ih (s + 1) (by omega)
      refine kb_11_togetherProves_11 (kt := fun z => absurd z ?_) (kf := fun _ => ?_)
      · rw [w4]; exact nI_ge (by omega) (by omega)
      refine kb_11_togetherProves_19 (hi0 := vp_in_nI (by omega) (by omega)) (kt := fun y => ?_) (kf := fun y => ?_)
      · rw [eF, am_bI_0] at y
        rw [if_neg (by rw [y]; simp)]
        refine kb_11_togetherProves_38 (k := ?_)
        rw [nI_1]; exact next
      · rw [eF, am_bI_0] at y
        have y' : fl s 1 = true := by simpa using y
        refine kb_11_togetherProves_28 (hC := sp_11_areAll hW1 (show s < N by omega) p h2 h3) (k := fun r τ' hr => ?_)
        obtain ⟨rfl, rfl⟩ := hr
        refine kb_11_togetherProves_33 (kt := fun x => ?_) (kf := fun x => ?_)
        · rw [am_bI_0] at x
          rw [if_neg (by rw [x]; simp)]
          refine kb_11_togetherProves_38 (k := ?_)
          rw [nI_1]; exact next
        · rw [am_bI_0] at x
          rw [if_pos (by rw [y']; simpa using x)]
          exact kb_11_togetherProves_36 ⟨rfl, f1⟩
  refine kb_11_togetherProves_9 (k := ?_)
  have := loop N 0 (by omega)
  rw [nI_0] at this
  exact this
end MTOG
