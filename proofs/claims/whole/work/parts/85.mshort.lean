/-! THE REFERENCE: isInRows, proves, cutsTest, shortens -/
def mr_M (σ : am_St) (r : Nat) (R : Nat → List Nat) (out : Nat → Bool) : Prop := am_I σ 16 42 = nI r ∧ r ≤ 200 ∧ ∀ k, k < r → am_A σ 16 40 k = rw_m rw_g (R k) ∧ am_A σ 16 41 k = rw_m rw_l (R k) ∧ am_A σ 16 44 k = am_bI (out k) ∧ rw_ok (R k)
theorem mr_M.same {σ τ : am_St} {r : Nat} {R : Nat → List Nat} {out : Nat → Bool} (h : mr_M σ r R out) (hI : am_I τ 16 42 = am_I σ 16 42) (h40 : am_A τ 16 40 = am_A σ 16 40) (h41 : am_A τ 16 41 = am_A σ 16 41) (h44 : am_A τ 16 44 = am_A σ 16 44) : mr_M τ r R out := ⟨by rw [hI]; exact h.1, h.2.1, fun k hk => by rw [h40, h41, h44]; exact h.2.2 k hk⟩
theorem mo_Fr.le {is as is' as' : List Nat} {σ τ : am_St} (h : mo_Fr is as σ τ) (hi : ∀ k, is'.contains k = false → is.contains k = false) (ha : ∀ k, as'.contains k = false → as.contains k = false) : mo_Fr is' as' σ τ := ⟨fun k hk => h.1 k (hi k hk), fun k hk => h.2.1 k (ha k hk), h.2.2⟩
theorem rl_e_sh {a b : List Nat} {c n : Nat} (h : a.length ≤ n) : rl_e (a ++ c :: b) (n + 1) = rl_e (a ++ b) n := by
  unfold rl_e
  rw [List.getElem?_append_right (by omega), List.getElem?_append_right h, show n + 1 - a.length = (n - a.length) + 1 by omega, List.getElem?_cons_succ]
section MSH
variable {d N K T r k : Nat} {tb : Nat → Int32} {fl : Nat → Nat → Bool} {nx : Nat → Nat → Option Nat} {R : Nat → List Nat} {out : Nat → Bool} {σ : am_St}
theorem sp_11_isInRows (hW : mo_Wo σ N K T tb fl nx) (hM : mr_M σ r R out) {s : Nat} (hs : s < N) : am_C true ya_11_isInRows d [.ref (am_oid 16), .int (nI s)] σ (fun r' τ => τ = σ ∧ r' = some (.int (am_bI (rs_in R out r (tb s))))) := by
  obtain ⟨m1, m2, m3⟩ := hM
  have hN := hW.1
  have eB : am_A σ 16 18 (nI s).toNatClampNeg = tb s := by rw [nI_clamp (by omega)]; exact (hW.2.2.2.2.2.2.1 s hs).1
  have vs : vp_in (nI s) 600 := vp_in_nI (by omega) (by omega)
  obtain ⟨B, hB⟩ : ∃ B : Nat → Bool, B = fun k => !out k && rw_h (tb s) (R k) := ⟨_, rfl⟩
  have e : rs_in R out r (tb s) = bs_an B r := by rw [hB]; rfl
  rw [e]
  have loop : ∀ (j k : Nat), k + j = r → bs_an B k = false → am_T true ya_11_isInRows d (fun r' τ => τ = σ ∧ r' = some (.int (am_bI (bs_an B r)))) 2 [some (.ref (am_oid 16)), some (.int (nI s)), some (.int (nI k))] [] σ := by
    intro j
    induction j with
    | zero =>
      intro k hk h
      have : k = r := by omega
      subst this
      exact kb_11_isInRows_2 (kt := fun _ => kb_11_isInRows_65 ⟨rfl, by rw [h]; rfl⟩) (kf := fun z => absurd (by rw [m1]; exact nI_le (by omega) (by omega)) z)
    | succ j ih =>
      intro k hk h
      obtain ⟨g1, g2, g3, g4⟩ := m3 k (by omega)
      have ck : (nI k).toNatClampNeg = k := nI_clamp (by omega)
      have vk : vp_in (nI k) 202 := vp_in_nI (by omega) (by omega)
      have no : B k = false → am_T true ya_11_isInRows d (fun r' τ => τ = σ ∧ r' = some (.int (am_bI (bs_an B r)))) 59 [some (.ref (am_oid 16)), some (.int (nI s)), some (.int (nI k))] [] σ := fun z => by
        refine kb_11_isInRows_59 (k := ?_)
        rw [nI_1]
        refine ih (k + 1) (by omega) ?_
        show (bs_an B k || B k) = false
        rw [h, z]; rfl
      refine kb_11_isInRows_2 (kt := fun z => absurd z (by rw [m1]; exact nI_ge (by omega) (by omega))) (kf := fun _ => ?_)
      refine kb_11_isInRows_10 (hi0 := vk) (kt := fun z => ?_) (kf := fun z => ?_)
      · rw [ck, g3, am_bI_0] at z
        refine no ?_
        rw [hB]
        show (!out k && _) = false
        have : out k = true := by simpa using z
        rw [this]; rfl
      · rw [ck, g3, am_bI_0] at z
        have hb : B k = rw_h (tb s) (R k) := by rw [hB]; show (!out k && _) = _; rw [z]; rfl
        refine kb_11_isInRows_19 (hi0 := vs) (hi1 := vk) (hi2 := vk) (kt := fun y => no ?_) (kf := fun y => ?_)
        · rw [eB, ck, g1] at y
          rw [hb]
          cases hh : rw_h (tb s) (R k)
          · rfl
          · exact absurd ((rw_h_mo g4).mpr hh).1 y
        · rw [eB, ck, g1] at y
          refine kb_11_isInRows_41 (hi0 := vs) (hi1 := vk) (kt := fun x => no ?_) (kf := fun x => kb_11_isInRows_57 ⟨rfl, ?_⟩)
          · rw [eB, ck, g2] at x
            rw [hb]
            cases hh : rw_h (tb s) (R k)
            · rfl
            · exact absurd ((rw_h_mo g4).mpr hh).2 x
          · rw [eB, ck, g2] at x
            have hh : B k = true := by rw [hb]; exact (rw_h_mo g4).mp ⟨y, x⟩
            rw [bs_an_iff.mpr ⟨k, by omega, hh⟩]; rfl
  refine am_enter rfl (by simp [Value.category]) (Nat.le_of_ble_eq_true rfl) (kb_11_isInRows_0 (k := ?_))
  have := loop r 0 (by omega) rfl
  rw [nI_0] at this
  exact this
theorem sp_11_proves (hW : mo_Wo σ N K T tb fl nx) (hM : mr_M σ r R out) : am_C true ya_11_proves (d + 1) [.ref (am_oid 16)] σ (fun r' τ => mo_Fr [] [45] σ τ ∧ r' = some (.int (am_bI (rs_P N K tb fl nx r R out)))) := by
  obtain ⟨w1, w2, w3, w4, w5, w6, w7, w8⟩ := id hW
  obtain ⟨held, hh⟩ : ∃ held : Nat → Bool, held = fun s => rs_in R out r (tb s) := ⟨_, rfl⟩
  obtain ⟨B1, hB1⟩ : ∃ B1 : Nat → Bool, B1 = fun s => if held s = true then fl s 1 else fl s 0 := ⟨_, rfl⟩
  obtain ⟨B2, hB2⟩ : ∃ B2 : Nat → Bool, B2 = fun s => held s && bs_h nx (fun t => !held t) s K := ⟨_, rfl⟩
  have eP : rs_P N K tb fl nx r R out = (!(bs_an B1 N) && !(bs_an B2 N)) := by rw [hB1, hB2, hh]; rfl
  generalize hQ : (fun (r' : Option Value) (τ : am_St) => mo_Fr [] [45] σ τ ∧ r' = some (.int (am_bI (rs_P N K tb fl nx r R out)))) = Q
  have eI : ∀ (G : Nat → Int32) (q : Nat), am_I (am_sA σ 16 45 G) 16 q = am_I σ 16 q := fun _ _ => rfl
  have eA : ∀ (G : Nat → Int32) (q : Nat), q ≠ 45 → am_A (am_sA σ 16 45 G) 16 q = am_A σ 16 q := fun G q hq => by rw [am_A_sA, if_neg (fun z => hq z.1)]
  have e45 : ∀ G : Nat → Int32, am_A (am_sA σ 16 45 G) 16 45 = G := fun G => by rw [am_A_sA, if_pos ⟨rfl, rfl⟩]
  have hF : ∀ G : Nat → Int32, mo_Fr [] [45] σ (am_sA σ 16 45 G) := fun G => mo_Fr.rf.sA (by rfl) G
  have bad : ∀ (G : Nat → Int32), bs_an B1 N = true ∨ bs_an B2 N = true → Q (some (.int 0)) (am_sA σ 16 45 G) := fun G h => by
    rw [← hQ, eP]
    refine ⟨hF G, ?_⟩
    rcases h with z | z
    · rw [z]; rfl
    · rw [z]; cases bs_an B1 N <;> rfl
  have loop2 : bs_an B1 N = false → ∀ G : Nat → Int32, (∀ s, s < N → G s = am_bI (held s)) → ∀ (j s : Nat), s + j = N → bs_an B2 s = false → ∀ a2 a3 : Option Value, am_T true ya_11_proves (d + 1) Q 61 [some (.ref (am_oid 16)), some (.int (nI s)), a2, a3] [] (am_sA σ 16 45 G) := by
    intro hb1 G hG j
    induction j with
    | zero =>
      intro s hs h a2 a3
      have : s = N := by omega
      subst this
      refine kb_11_proves_61 (kt := fun _ => kb_11_proves_130 ?_) (kf := fun z => absurd (by rw [eI, w4]; exact nI_le (by omega) (by omega)) z)
      rw [← hQ, eP, hb1, h]; exact ⟨hF G, rfl⟩
    | succ j ih =>
      intro s hs h a2 a3
      have vs : vp_in (nI s) 600 := vp_in_nI (by omega) (by omega)
      have cs : (nI s).toNatClampNeg = s := nI_clamp (by omega)
      have no : B2 s = false → ∀ a2 a3 : Option Value, am_T true ya_11_proves (d + 1) Q 124 [some (.ref (am_oid 16)), some (.int (nI s)), a2, a3] [] (am_sA σ 16 45 G) := fun z a2 a3 => by
        refine kb_11_proves_124 (k := ?_)
        rw [nI_1]
        refine ih (s + 1) (by omega) ?_ _ _
        show (bs_an B2 s || B2 s) = false
        rw [h, z]; rfl
      have inner : ∀ (j2 k : Nat), k + j2 = K → bs_h nx (fun t => !held t) s k = false → ∀ a3 : Option Value, am_T true ya_11_proves (d + 1) Q 71 [some (.ref (am_oid 16)), some (.int (nI s)), some (.int (nI k)), a3] [] (am_sA σ 16 45 G) := by
        intro j2
        induction j2 with
        | zero =>
          intro k hk hb a3
          have : k = K := by omega
          subst this
          refine kb_11_proves_71 (kt := fun _ => no ?_ _ _) (kf := fun z => absurd (by rw [eA G 3 (by decide), w5]; exact nI_le (by omega) (by omega)) z)
          rw [hB2]
          show (held s && _) = false
          rw [hb, Bool.and_false]
        | succ j2 ih2 =>
          intro k hk hb a3
          obtain ⟨g1, g2⟩ := w8 s (by omega) k (by omega)
          have v8 : vp_in (8 * nI s + nI k) 4800 := by rw [am_ix8']; exact vp_in_nI (by omega) (by omega)
          have eT : am_A (am_sA σ 16 45 G) 16 23 (8 * nI s + nI k).toNatClampNeg = am_oI (-1) (nx s k) := by rw [eA G 23 (by decide), am_ix8', nI_clamp (by omega)]; exact g1
          have go : (match nx s k with | none => false | some t => !held t) = false → ∀ a3 : Option Value, am_T true ya_11_proves (d + 1) Q 118 [some (.ref (am_oid 16)), some (.int (nI s)), some (.int (nI k)), a3] [] (am_sA σ 16 45 G) := fun z a3 => by
            refine kb_11_proves_118 (k := ?_)
            rw [nI_1]
            refine ih2 (k + 1) (by omega) ?_ _
            show (bs_h nx (fun t => !held t) s k || _) = false
            rw [hb, Bool.false_or]; exact z
          refine kb_11_proves_71 (kt := fun z => absurd z (by rw [eA G 3 (by decide), w5]; exact nI_ge (by omega) (by omega))) (kf := fun _ => ?_)
          refine kb_11_proves_81 (hi0 := vs) (kt := fun z => no ?_ _ _) (kf := fun z => ?_)
          · rw [cs, e45, hG s (by omega), am_bI_0] at z
            rw [hB2]
            show (held s && _) = false
            rw [z]; rfl
          · rw [cs, e45, hG s (by omega), am_bI_0] at z
            have hhs : held s = true := by simpa using z
            refine kb_11_proves_90 (hi0 := v8) (kt := fun y => ?_) (kf := fun y => ?_)
            · rw [eT, am_oI_m1 g2 w1] at y
              exact go (by rw [y]) _
            · rw [eT, am_oI_m1 g2 w1] at y
              rw [eT]
              cases hx : nx s k with
              | none => exact absurd hx y
              | some t =>
                have ht := g2 t hx
                show am_T _ _ _ _ _ [_, _, _, some (.int (nI t))] _ _
                refine kb_11_proves_107 (hi0 := vp_in_nI (by omega) (by omega)) (kt := fun x => go ?_ _) (kf := fun x => kb_11_proves_116 (bad G (Or.inr ?_)))
                · rw [nI_clamp (by omega), e45, hG t ht, am_bI_0] at x
                  rw [hx]
                  show (!held t) = false
                  have : held t = true := by simpa using x
                  rw [this]; rfl
                · rw [nI_clamp (by omega), e45, hG t ht, am_bI_0] at x
                  refine bs_an_iff.mpr ⟨s, by omega, ?_⟩
                  have h1 : bs_h nx (fun t => !held t) s (k + 1) = true := by
                    show (bs_h nx (fun t => !held t) s k || _) = true
                    rw [hx]
                    show (_ || !held t) = true
                    rw [x]; simp
                  have := bs_h_mono h1 j2
                  rw [show k + 1 + j2 = K by omega] at this
                  rw [hB2]
                  show (held s && _) = true
                  rw [hhs, this]; rfl
      refine kb_11_proves_61 (kt := fun z => absurd z (by rw [eI, w4]; exact nI_ge (by omega) (by omega))) (kf := fun _ => kb_11_proves_69 (k := ?_))
      have := inner K 0 (by omega) rfl a3
      rw [nI_0] at this
      exact this
  have loop1 : ∀ (j s : Nat), s + j = N → ∀ G : Nat → Int32, (∀ z, z < s → G z = am_bI (held z)) → bs_an B1 s = false → ∀ a2 a3 : Option Value, am_T true ya_11_proves (d + 1) Q 2 [some (.ref (am_oid 16)), some (.int (nI s)), a2, a3] [] (am_sA σ 16 45 G) := by
    intro j
    induction j with
    | zero =>
      intro s hs G hG h a2 a3
      have : s = N := by omega
      subst this
      refine kb_11_proves_2 (kt := fun _ => kb_11_proves_59 (k := ?_)) (kf := fun z => absurd (by rw [eI, w4]; exact nI_le (by omega) (by omega)) z)
      have := loop2 h G hG s 0 (by omega) rfl a2 a3
      rw [nI_0] at this
      exact this
    | succ j ih =>
      intro s hs G hG h a2 a3
      have vs : vp_in (nI s) 600 := vp_in_nI (by omega) (by omega)
      have cs : (nI s).toNatClampNeg = s := nI_clamp (by omega)
      obtain ⟨-, f1, f2, -, -⟩ := w7 s (by omega)
      have hW' : mo_Wo (am_sA σ 16 45 G) N K T tb fl nx := hW.same (hF G) rfl (fun k hk => by rcases hk with rfl | rfl | rfl | rfl | rfl | rfl | rfl <;> rfl)
      have hM' : mr_M (am_sA σ 16 45 G) r R out := hM.same rfl (eA G 40 (by decide)) (eA G 41 (by decide)) (eA G 44 (by decide))
      have no : B1 s = false → am_T true ya_11_proves (d + 1) Q 53 [some (.ref (am_oid 16)), some (.int (nI s)), a2, a3] [] (am_sA σ 16 45 (upd G s (am_bI (held s)))) := fun z => by
        refine kb_11_proves_53 (k := ?_)
        rw [nI_1]
        refine ih (s + 1) (by omega) _ (fun x hx => ?_) ?_ _ _
        · by_cases c : x = s
          · rw [c, upd_s]
          · rw [upd_n c]; exact hG x (by omega)
        · show (bs_an B1 s || B1 s) = false
          rw [h, z]; rfl
      have yes : B1 s = true → am_T true ya_11_proves (d + 1) Q 51 [some (.ref (am_oid 16)), some (.int (nI s)), a2, a3] [] (am_sA σ 16 45 (upd G s (am_bI (held s)))) := fun z => kb_11_proves_51 (bad _ (Or.inl (bs_an_iff.mpr ⟨s, by omega, z⟩)))
      refine kb_11_proves_2 (kt := fun z => absurd z (by rw [eI, w4]; exact nI_ge (by omega) (by omega))) (kf := fun _ => ?_)
      refine kb_11_proves_10 (hC := sp_11_isInRows hW' hM' (show s < N by omega)) (k := fun r' τ hr' => ?_)
      obtain ⟨rfl, rfl⟩ := hr'
      have eh : rs_in R out r (tb s) = held s := by rw [hh]
      rw [eh]
      refine kb_11_proves_20 (hi0 := vs) (hi1 := vs) (kt := fun z => ?_) (kf := fun z => ?_)
      · rw [cs, upd_s, vp_nar_bI, am_bI_0] at z
        rw [cs, vp_nar_bI, e45, am_sA_sA]
        have e1 : B1 s = fl s 0 := by rw [hB1]; show (if held s = true then _ else _) = _; rw [z]; rfl
        refine kb_11_proves_42 (hi0 := vs) (kt := fun y => no ?_) (kf := fun y => yes ?_)
        · rw [cs, eA _ 19 (by decide), f1, am_bI_0] at y; rw [e1]; exact y
        · rw [cs, eA _ 19 (by decide), f1, am_bI_0] at y; rw [e1]; simpa using y
      · rw [cs, upd_s, vp_nar_bI, am_bI_0] at z
        have z' : held s = true := by simpa using z
        rw [cs, vp_nar_bI, e45, am_sA_sA]
        have e1 : B1 s = fl s 1 := by rw [hB1]; show (if held s = true then _ else _) = _; rw [z']; rfl
        refine kb_11_proves_30 (hi0 := vs) (kt := fun y => no ?_) (kf := fun y => kb_11_proves_39 (k := yes ?_))
        · rw [cs, eA _ 20 (by decide), f2, am_bI_0] at y; rw [e1]; exact y
        · rw [cs, eA _ 20 (by decide), f2, am_bI_0] at y; rw [e1]; simpa using y
  refine am_enter rfl (by simp [Value.category]) (Nat.le_of_ble_eq_true rfl) (kb_11_proves_0 (k := ?_))
  have := loop1 N 0 (by omega) (am_A σ 16 45) (fun z hz => absurd hz (Nat.not_lt_zero z)) rfl none none
  rw [am_sA_id, nI_0] at this
  exact this
theorem sp_11_cutsTest {a b : List Nat} {c : Nat} (hk : k < 200) (hl : (a ++ c :: b).length ≤ 16) (hL : am_A σ 16 39 k = nI (a ++ c :: b).length) (hE : ∀ z, z < (a ++ c :: b).length → am_A σ 16 38 (16 * k + z) = rl_e (a ++ c :: b) z) : am_C true ya_11_cutsTest d [.ref (am_oid 16), .int (nI k), .int (nI a.length)] σ (fun r' τ => r' = none ∧ ∃ E : Nat → Int32, τ = am_sA (am_sA σ 16 38 E) 16 39 (upd (am_A σ 16 39) k (nI (a ++ b).length)) ∧ (∀ z, z < (a ++ b).length → E (16 * k + z) = rl_e (a ++ b) z) ∧ ∀ z, z < 16 * k ∨ 16 * k + 16 ≤ z → E z = am_A σ 16 38 z) := by
  have lw : (a ++ c :: b).length = (a ++ b).length + 1 := by simp; omega
  have lab : a.length ≤ (a ++ b).length := by simp
  have vk : vp_in (nI k) 202 := vp_in_nI (by omega) (by omega)
  have ck : (nI k).toNatClampNeg = k := nI_clamp (by omega)
  have e39 : ∀ E : Nat → Int32, am_A (am_sA σ 16 38 E) 16 39 = am_A σ 16 39 := fun E => by rw [am_A_sA, if_neg (by simp)]
  have e38 : ∀ E : Nat → Int32, am_A (am_sA σ 16 38 E) 16 38 = E := fun E => by rw [am_A_sA, if_pos ⟨rfl, rfl⟩]
  have loop : ∀ (j n : Nat), n + j = (a ++ b).length → a.length ≤ n → ∀ E : Nat → Int32, (∀ z, z < n → E (16 * k + z) = rl_e (a ++ b) z) → (∀ z, n ≤ z → z < (a ++ c :: b).length → E (16 * k + z) = rl_e (a ++ c :: b) z) → (∀ z, z < 16 * k ∨ 16 * k + 16 ≤ z → E z = am_A σ 16 38 z) → am_T true ya_11_cutsTest d (fun r' τ => r' = none ∧ ∃ E : Nat → Int32, τ = am_sA (am_sA σ 16 38 E) 16 39 (upd (am_A σ 16 39) k (nI (a ++ b).length)) ∧ (∀ z, z < (a ++ b).length → E (16 * k + z) = rl_e (a ++ b) z) ∧ ∀ z, z < 16 * k ∨ 16 * k + 16 ≤ z → E z = am_A σ 16 38 z) 2 [some (.ref (am_oid 16)), some (.int (nI k)), some (.int (nI a.length)), some (.int (nI n))] [] (am_sA σ 16 38 E) := by
    intro j
    induction j with
    | zero =>
      intro n hn han E h1 h2 h3
      have : n = (a ++ b).length := by omega
      subst this
      refine kb_11_cutsTest_2 (hi0 := vk) (kt := fun _ => kb_11_cutsTest_44 (hi0 := vk) (hi1 := vk) (hq := ⟨rfl, E, ?_, h1, h3⟩)) (kf := fun z => absurd ?_ z)
      · rw [ck, e39, hL, lw, nI_pred]
      · rw [ck, e39, hL, nI_1, lw]; exact nI_le (by omega) (by omega)
    | succ j ih =>
      intro n hn han E h1 h2 h3
      have ix : (16 : Int32) * nI k + nI n = nI (16 * k + n) := by rw [show (16 : Int32) = nI 16 from rfl, nI_mul, nI_add]
      refine kb_11_cutsTest_2 (hi0 := vk) (kt := fun z => absurd z ?_) (kf := fun _ => ?_)
      · rw [ck, e39, hL, nI_1]; exact nI_ge (by omega) (by omega)
      refine kb_11_cutsTest_14 (hi0 := by rw [ix, nI_1]; exact vp_in_nI (by omega) (by omega)) (hi1 := by rw [ix]; exact vp_in_nI (by omega) (by omega)) (k := ?_)
      rw [ix, nI_1, nI_1, nI_clamp (show 16 * k + n < 2 ^ 31 by omega), nI_clamp (show 16 * k + n + 1 < 2 ^ 31 by omega), e38, am_sA_sA]
      have ev : E (16 * k + n + 1) = rl_e (a ++ b) n := by
        have := h2 (n + 1) (by omega) (by omega)
        rw [rl_e_sh han] at this
        exact this
      rw [ev]
      refine ih (n + 1) (by omega) (by omega) _ (fun z hz => ?_) (fun z c1 c2 => ?_) (fun z hz => ?_)
      · by_cases c2 : z = n
        · rw [c2, upd_s]
        · rw [upd_n (by omega)]; exact h1 z (by omega)
      · rw [upd_n (by omega)]; exact h2 z (by omega) c2
      · rw [upd_n (by omega)]; exact h3 z hz
  refine am_enter rfl (by simp [Value.category]) (Nat.le_of_ble_eq_true rfl) (kb_11_cutsTest_0 (k := ?_))
  have := loop ((a ++ b).length - a.length) a.length (by omega) (Nat.le_refl _) (am_A σ 16 38) (fun z hz => ?_) (fun z _ hz => hE z hz) (fun z _ => rfl)
  · rw [am_sA_id] at this; exact this
  · rw [hE z (by omega), rl_e_app hz, rl_e_app hz]
theorem mr_Rw.same {σ τ : am_St} {k : Nat} {row : List Nat} (h : mr_Rw σ k row) (h38 : am_A τ 16 38 = am_A σ 16 38) (h39 : am_A τ 16 39 = am_A σ 16 39) (h40 : am_A τ 16 40 = am_A σ 16 40) (h41 : am_A τ 16 41 = am_A σ 16 41) : mr_Rw τ k row := by
  unfold mr_Rw; rw [h38, h39, h40, h41]; exact h
abbrev mr_SF := mo_Fr [] [38, 39, 40, 41, 45]
theorem sp_11_shortens (hW : mo_Wo σ N K T tb fl nx) (hI : am_I σ 16 42 = nI r) (hr : r ≤ 200) (hR : ∀ k, k < r → mr_Rw σ k (R k)) (hO : ∀ k, k < r → am_A σ 16 44 k = 0) (hok : ∀ k, rw_ok (R k) ∧ (R k).length ≤ 16) : am_C true ya_11_shortens (d + 2) [.ref (am_oid 16)] σ (fun r' τ => r' = none ∧ mo_Fr [] [38, 39, 40, 41, 44, 45] σ τ ∧ (∀ k, k < r → mr_Rw τ k (sh_ts (fun R => rs_P N K tb fl nx r R (fun _ => false)) R r k)) ∧ ∀ k, k < r → am_A τ 16 44 k = am_bI (sh_rs (fun o => rs_P N K tb fl nx r (sh_ts (fun R => rs_P N K tb fl nx r R (fun _ => false)) R r) o) r k)) := by
  obtain ⟨pv, hpv⟩ : ∃ pv : (Nat → List Nat) → Bool, pv = fun R => rs_P N K tb fl nx r R (fun _ => false) := ⟨_, rfl⟩
  rw [← hpv]
  obtain ⟨R1, hR1⟩ : ∃ R1, R1 = sh_ts pv R r := ⟨_, rfl⟩
  rw [← hR1]
  have hok1 : ∀ k, rw_ok (R1 k) ∧ (R1 k).length ≤ 16 := by rw [hR1]; exact sh_ts_ok hok r
  obtain ⟨pw, hpw⟩ : ∃ pw : (Nat → Bool) → Bool, pw = fun o => rs_P N K tb fl nx r R1 o := ⟨_, rfl⟩
  rw [← hpw]
  generalize hQ : (fun (r' : Option Value) (τ : am_St) => r' = none ∧ mo_Fr [] [38, 39, 40, 41, 44, 45] σ τ ∧ (∀ k, k < r → mr_Rw τ k (R1 k)) ∧ ∀ k, k < r → am_A τ 16 44 k = am_bI (sh_rs pw r k)) = Q
  have wo : ∀ {is as : List Nat} {τ : am_St}, mo_Fr is as σ τ → is.contains 17 = false → as.contains 3 = false ∧ as.contains 18 = false ∧ as.contains 19 = false ∧ as.contains 20 = false ∧ as.contains 21 = false ∧ as.contains 22 = false ∧ as.contains 23 = false → mo_Wo τ N K T tb fl nx := fun hf h1 h2 => hW.same hf h1 (fun k hk => by
    obtain ⟨a1, a2, a3, a4, a5, a6, a7⟩ := h2
    rcases hk with rfl | rfl | rfl | rfl | rfl | rfl | rfl
    · exact a1
    · exact a2
    · exact a3
    · exact a4
    · exact a5
    · exact a6
    · exact a7)
  have second : ∀ (j k : Nat), k + j = r → ∀ τ : am_St, mo_Fr [] [38, 39, 40, 41, 44, 45] σ τ → (∀ k, k < r → mr_Rw τ k (R1 k)) → (∀ p, p < r → am_A τ 16 44 p = am_bI (sh_rs pw k p)) → ∀ a2 a3 : Option Value, am_T true ya_11_shortens (d + 2) Q 76 [some (.ref (am_oid 16)), some (.int (nI k)), a2, a3] [] τ := by
    intro j
    induction j with
    | zero =>
      intro k hk τ D1 D2 D3 a2 a3
      have : k = r := by omega
      subst this
      refine kb_11_shortens_76 (kt := fun _ => kb_11_shortens_107 (hq := ?_)) (kf := fun z => absurd (by rw [D1.1 42 rfl, hI]; exact nI_le (by omega) (by omega)) z)
      rw [← hQ]
      exact ⟨rfl, D1, D2, D3⟩
    | succ j ih =>
      intro k hk τ D1 D2 D3 a2 a3
      have vk : vp_in (nI k) 202 := vp_in_nI (by omega) (by omega)
      have ck : (nI k).toNatClampNeg = k := nI_clamp (by omega)
      have hs1 : sh_rs pw (k + 1) = am_uB (sh_rs pw k) k (pw (am_uB (sh_rs pw k) k true)) := rfl
      refine kb_11_shortens_76 (kt := fun z => absurd z (by rw [D1.1 42 rfl, hI]; exact nI_ge (by omega) (by omega))) (kf := fun _ => ?_)
      obtain ⟨τ1, hτ1⟩ : ∃ τ1, τ1 = am_sA τ 16 44 (upd (am_A τ 16 44) k 1) := ⟨_, rfl⟩
      have F1 : mo_Fr [] [38, 39, 40, 41, 44, 45] σ τ1 := by rw [hτ1]; exact D1.sA (by rfl) _
      have q1 : ∀ q, q ≠ 44 → am_A τ1 16 q = am_A τ 16 q := fun q hq => by rw [hτ1, am_A_sA, if_neg (fun z => hq z.1)]
      have M1 : mr_M τ1 r R1 (am_uB (sh_rs pw k) k true) := ⟨by rw [F1.1 42 rfl]; exact hI, hr, fun p hp => by
        obtain ⟨-, -, y3, y4⟩ := D2 p hp
        refine ⟨by rw [q1 40 (by decide)]; exact y3, by rw [q1 41 (by decide)]; exact y4, ?_, (hok1 p).1⟩
        rw [hτ1, am_A_sA, if_pos ⟨rfl, rfl⟩]
        unfold am_uB
        by_cases c : p = k
        · rw [c, upd_s, if_pos rfl]; rfl
        · rw [upd_n c, if_neg c]; exact D3 p hp⟩
      refine kb_11_shortens_84 (hi0 := vk) (hC := by rw [ck, show vp_nar .boolean 1 = 1 from vp_nar_bI true, ← hτ1]; exact sp_11_proves (wo F1 rfl ⟨rfl, rfl, rfl, rfl, rfl, rfl, rfl⟩) M1) (k := fun r' τ2 hr' => ?_)
      obtain ⟨F2, rfl⟩ := hr'
      have ep : rs_P N K tb fl nx r R1 (am_uB (sh_rs pw k) k true) = pw (am_uB (sh_rs pw k) k true) := by rw [hpw]
      rw [ep]
      refine kb_11_shortens_100 (hi0 := vk) (k := ?_)
      rw [ck, vp_nar_bI, nI_1]
      have F12 : mo_Fr [] [38, 39, 40, 41, 44, 45] σ τ2 := F1.tr (F2.le (fun k hk => hk) (fun k hk => by simp at hk ⊢; exact hk.2.2.2.2.2))
      have q2 : ∀ q, q ≠ 44 → q ≠ 45 → am_A τ2 16 q = am_A τ 16 q := fun q h1 h2 => by rw [F2.2.1 q (by simp; exact fun z => h2 z), q1 q h1]
      have q3 : ∀ q, q ≠ 44 → q ≠ 45 → am_A (am_sA τ2 16 44 (upd (am_A τ2 16 44) k (am_bI (pw (am_uB (sh_rs pw k) k true))))) 16 q = am_A τ 16 q := fun q h1 h2 => by rw [am_A_sA, if_neg (fun z => h1 z.1)]; exact q2 q h1 h2
      refine ih (k + 1) (by omega) _ (F12.sA (by rfl) _) (fun p hp => (D2 p hp).same (q3 38 (by decide) (by decide)) (q3 39 (by decide) (by decide)) (q3 40 (by decide) (by decide)) (q3 41 (by decide) (by decide))) (fun p hp => ?_) _ _
      rw [am_A_sA, if_pos ⟨rfl, rfl⟩, hs1]
      have e44 : am_A τ2 16 44 = am_A τ1 16 44 := F2.2.1 44 rfl
      unfold am_uB
      by_cases c : p = k
      · rw [c, upd_s, if_pos rfl]
      · rw [upd_n c, if_neg c, e44, hτ1, am_A_sA, if_pos ⟨rfl, rfl⟩, upd_n c]; exact D3 p hp
  have first : ∀ (j k : Nat), k + j = r → ∀ τ : am_St, mr_SF σ τ → (∀ p, p < r → mr_Rw τ p (sh_ts pv R k p)) → ∀ a2 a3 : Option Value, am_T true ya_11_shortens (d + 2) Q 2 [some (.ref (am_oid 16)), some (.int (nI k)), a2, a3] [] τ := by
    intro j
    induction j with
    | zero =>
      intro k hk τ D1 D2 a2 a3
      have : k = r := by omega
      subst this
      refine kb_11_shortens_2 (kt := fun _ => kb_11_shortens_74 (k := ?_)) (kf := fun z => absurd (by rw [D1.1 42 rfl, hI]; exact nI_le (by omega) (by omega)) z)
      have := second k 0 (by omega) τ (D1.le (fun k hk => hk) (fun k hk => by simp at hk ⊢; exact ⟨hk.1, hk.2.1, hk.2.2.1, hk.2.2.2.1, hk.2.2.2.2.2⟩)) (by rw [hR1]; exact D2) (fun p hp => by rw [D1.2.1 44 rfl, hO p hp]; rfl) a2 a3
      rw [nI_0] at this
      exact this
    | succ j ih =>
      intro k hk τ0 D1 D2 a2 a3
      obtain ⟨Rk, hRk⟩ : ∃ Rk, Rk = sh_ts pv R k := ⟨_, rfl⟩
      rw [← hRk] at D2
      have hokk : ∀ p, rw_ok (Rk p) ∧ (Rk p).length ≤ 16 := by rw [hRk]; exact sh_ts_ok hok k
      obtain ⟨pk, hpk⟩ : ∃ pk : List Nat → Bool, pk = fun x => pv (am_uL Rk k x) := ⟨_, rfl⟩
      have hs1 : sh_ts pv R (k + 1) = am_uL Rk k (sh_row pk [] (Rk k)) := by rw [hpk, hRk]; rfl
      have vk : vp_in (nI k) 202 := vp_in_nI (by omega) (by omega)
      have ck : (nI k).toNatClampNeg = k := nI_clamp (by omega)
      have loop : ∀ (b a : List Nat), rw_ok (a ++ b) → (a ++ b).length ≤ 16 → ∀ τ : am_St, mr_SF σ τ → (∀ p, p < r → mr_Rw τ p (am_uL Rk k (a ++ b) p)) → sh_row pk [] (Rk k) = sh_row pk a b → ∀ a3 : Option Value, am_T true ya_11_shortens (d + 2) Q 12 [some (.ref (am_oid 16)), some (.int (nI k)), some (.int (nI a.length)), a3] [] τ := by
        intro b
        induction b with
        | nil =>
          intro a ok1 hl τ E1 E2 hsh a3
          have q39 : am_A τ 16 39 k = nI (a ++ []).length := by have := (E2 k (by omega)).1; unfold am_uL at this; rw [if_pos rfl] at this; exact this
          rw [List.append_nil] at E2 q39 hl
          refine kb_11_shortens_12 (hi0 := vk) (kt := fun _ => kb_11_shortens_68 (k := ?_)) (kf := fun z => absurd (by rw [ck, q39]; exact nI_le (Nat.le_refl _) (by omega)) z)
          rw [nI_1]
          refine ih (k + 1) (by omega) τ E1 (fun p hp => ?_) _ _
          rw [hs1, hsh]; exact E2 p hp
        | cons c b ihb =>
          intro a ok1 hl τ E1 E2 hsh a3
          have rk := E2 k (by omega)
          have urk : am_uL Rk k (a ++ c :: b) k = a ++ c :: b := by unfold am_uL; rw [if_pos rfl]
          rw [urk] at rk
          obtain ⟨k1, k2, k3, k4⟩ := rk
          obtain ⟨o1, o2, o3, o4⟩ := rw_ok_del ok1
          have lw : (a ++ c :: b).length = (a ++ b).length + 1 := by simp; omega
          have la : a.length ≤ (a ++ b).length := by simp
          have ix : (16 : Int32) * nI k + nI a.length = nI (16 * k + a.length) := by rw [show (16 : Int32) = nI 16 from rfl, nI_mul, nI_add]
          have ec : am_A τ 16 38 ((16 : Int32) * nI k + nI a.length).toNatClampNeg = nI c := by rw [ix, nI_clamp (by omega), k2 _ (by omega), rl_e_mid]
          refine kb_11_shortens_12 (hi0 := vk) (kt := fun z => absurd z (by rw [ck, k1]; exact nI_ge (by omega) (by omega))) (kf := fun _ => ?_)
          refine kb_11_shortens_22 (hi0 := by rw [ix]; exact vp_in_nI (by omega) (by omega)) (hC := by rw [ec]; exact sp_11_drops (show k < 202 by omega) o4) (k := fun r' τ1 hr' => ?_)
          obtain ⟨rfl, hτ1⟩ := hr'
          rw [ec]
          obtain ⟨t1, t2, t3⟩ := mr_dr_A (σ := τ) (k := k) (c := c)
          rw [← hτ1] at t1 t2 t3
          have F1 : mr_SF σ τ1 := by rw [hτ1]; unfold mr_dr; exact (E1.sA (by rfl) _).sA (by rfl) _
          have M1 : mr_M τ1 r (am_uL Rk k (a ++ b)) (fun _ => false) := ⟨by rw [F1.1 42 rfl]; exact hI, hr, fun p hp => by
            have h44 : am_A τ1 16 44 p = am_bI false := by rw [F1.2.1 44 rfl, hO p hp]; rfl
            rw [t1, t2, h44]
            by_cases cc : p = k
            · subst cc
              have : am_uL Rk p (a ++ b) p = a ++ b := by unfold am_uL; rw [if_pos rfl]
              rw [this, upd_s, upd_s, k3, k4, rw_m_cut ok1, rw_m_cut ok1]
              exact ⟨rfl, rfl, rfl, o1⟩
            · obtain ⟨-, -, y3, y4⟩ := E2 p hp
              have e1 : am_uL Rk k (a ++ b) p = Rk p := by unfold am_uL; rw [if_neg cc]
              have e2 : am_uL Rk k (a ++ c :: b) p = Rk p := by unfold am_uL; rw [if_neg cc]
              rw [e2] at y3 y4
              rw [e1, upd_n cc, upd_n cc]
              exact ⟨y3, y4, rfl, (hokk p).1⟩⟩
          refine kb_11_shortens_40 (hC := sp_11_proves (wo F1 rfl ⟨rfl, rfl, rfl, rfl, rfl, rfl, rfl⟩) M1) (k := fun r' τ2 hr' => ?_)
          obtain ⟨F2, rfl⟩ := hr'
          have ep : rs_P N K tb fl nx r (am_uL Rk k (a ++ b)) (fun _ => false) = pk (a ++ b) := by rw [hpk, hpv]
          rw [ep]
          have F12 : mr_SF σ τ2 := F1.tr (F2.le (fun k hk => hk) (fun k hk => by simp at hk ⊢; exact hk.2.2.2.2))
          have q2 : ∀ q, q ≠ 45 → am_A τ2 16 q = am_A τ1 16 q := fun q h => F2.2.1 q (by simp; exact h)
          have hsh' : sh_row pk a (c :: b) = if pk (a ++ b) = true then sh_row pk a b else sh_row pk (a ++ [c]) b := rfl
          refine kb_11_shortens_44 (kt := fun z => ?_) (kf := fun z => ?_)
          · rw [am_bI_0] at z
            rw [if_neg (by rw [z]; decide)] at hsh'
            refine kb_11_shortens_56 (hC := sp_11_takes (show k < 202 by omega) o4) (k := fun r' τ3 hr' => ?_)
            obtain ⟨rfl, hτ3⟩ := hr'
            obtain ⟨s1, s2, s3⟩ := mr_tk_A (σ := τ2) (k := k) (c := c)
            rw [← hτ3] at s1 s2 s3
            have apc : (a ++ [c]) ++ b = a ++ c :: b := by rw [List.append_assoc]; rfl
            have las : (a ++ [c]).length = a.length + 1 := by simp
            refine kb_11_shortens_62 (k := kb_11_shortens_65 (k := ?_))
            rw [nI_1, ← las]
            refine ihb (a ++ [c]) (by rw [apc]; exact ok1) (by rw [apc]; exact hl) τ3 (by rw [hτ3]; unfold mr_tk; exact (F12.sA (by rfl) _).sA (by rfl) _) (fun p hp => ?_) (by rw [hsh, hsh']) _
            rw [apc]
            obtain ⟨y1, y2, y3, y4⟩ := E2 p hp
            refine ⟨?_, fun z hz => ?_, ?_, ?_⟩
            · rw [s3 39 (by decide) (by decide), q2 39 (by decide), t3 39 (by decide) (by decide)]; exact y1
            · rw [s3 38 (by decide) (by decide), q2 38 (by decide), t3 38 (by decide) (by decide)]; exact y2 z hz
            · by_cases cc : p = k
              · subst cc
                rw [s1, upd_s, q2 40 (by decide), t1, upd_s, k3, rw_m_cut ok1, urk]; exact rw_m_ins'
              · rw [s1, upd_n cc, q2 40 (by decide), t1, upd_n cc]; exact y3
            · by_cases cc : p = k
              · subst cc
                rw [s2, upd_s, q2 41 (by decide), t2, upd_s, k4, rw_m_cut ok1, urk]; exact rw_m_ins'
              · rw [s2, upd_n cc, q2 41 (by decide), t2, upd_n cc]; exact y4
          · rw [am_bI_0] at z
            rw [if_pos (by simpa using z)] at hsh'
            have e39 : am_A τ2 16 39 = am_A τ 16 39 := by rw [q2 39 (by decide), t3 39 (by decide) (by decide)]
            have e38 : am_A τ2 16 38 = am_A τ 16 38 := by rw [q2 38 (by decide), t3 38 (by decide) (by decide)]
            refine kb_11_shortens_47 (hC := sp_11_cutsTest (a := a) (b := b) (c := c) (show k < 200 by omega) hl (by rw [e39]; exact k1) (fun z hz => by rw [e38]; exact k2 z hz)) (k := fun r' τ3 hr' => ?_)
            obtain ⟨rfl, E, hτ3, u1, u2⟩ := hr'
            refine kb_11_shortens_53 (k := kb_11_shortens_65 (k := ?_))
            have v38 : am_A τ3 16 38 = E := by rw [hτ3, am_A_sA, if_neg (by simp), am_A_sA, if_pos ⟨rfl, rfl⟩]
            have v39 : am_A τ3 16 39 = upd (am_A τ2 16 39) k (nI (a ++ b).length) := by rw [hτ3, am_A_sA, if_pos ⟨rfl, rfl⟩]
            have vn : ∀ q, q ≠ 38 → q ≠ 39 → am_A τ3 16 q = am_A τ2 16 q := fun q h1 h2 => by rw [hτ3, am_A_sA, if_neg (fun z => h2 z.1), am_A_sA, if_neg (fun z => h1 z.1)]
            refine ihb a o1 (by omega) τ3 (by rw [hτ3]; exact (F12.sA (by rfl) _).sA (by rfl) _) (fun p hp => ?_) (by rw [hsh, hsh']) _
            obtain ⟨y1, y2, y3, y4⟩ := E2 p hp
            by_cases cc : p = k
            · subst cc
              have e1 : am_uL Rk p (a ++ b) p = a ++ b := by unfold am_uL; rw [if_pos rfl]
              rw [e1]
              refine ⟨by rw [v39, upd_s], fun z hz => by rw [v38]; exact u1 z hz, ?_, ?_⟩
              · rw [vn 40 (by decide) (by decide), q2 40 (by decide), t1, upd_s, k3, rw_m_cut ok1]
              · rw [vn 41 (by decide) (by decide), q2 41 (by decide), t2, upd_s, k4, rw_m_cut ok1]
            · have e1 : am_uL Rk k (a ++ b) p = Rk p := by unfold am_uL; rw [if_neg cc]
              have e2 : am_uL Rk k (a ++ c :: b) p = Rk p := by unfold am_uL; rw [if_neg cc]
              rw [e2] at y1 y2 y3 y4
              rw [e1]
              have := (hokk p).2
              refine ⟨by rw [v39, upd_n cc, e39]; exact y1, fun z hz => ?_, ?_, ?_⟩
              · rw [v38, u2 _ (by omega), e38]; exact y2 z hz
              · rw [vn 40 (by decide) (by decide), q2 40 (by decide), t1, upd_n cc]; exact y3
              · rw [vn 41 (by decide) (by decide), q2 41 (by decide), t2, upd_n cc]; exact y4
      refine kb_11_shortens_2 (kt := fun z => absurd z (by rw [D1.1 42 rfl, hI]; exact nI_ge (by omega) (by omega))) (kf := fun _ => kb_11_shortens_10 (k := ?_))
      have eR : am_uL Rk k ([] ++ Rk k) = Rk := by
        funext i; unfold am_uL
        by_cases c : i = k
        · rw [if_pos c, c]; rfl
        · rw [if_neg c]
      have := loop (Rk k) [] (hokk k).1 (hokk k).2 τ0 D1 (by rw [eR]; exact D2) rfl a3
      exact this
  refine am_enter rfl (by simp [Value.category]) (Nat.le_of_ble_eq_true rfl) (kb_11_shortens_0 (k := ?_))
  have := first r 0 (by omega) σ mo_Fr.rf hR none none
  rw [nI_0] at this
  exact this
end MSH
