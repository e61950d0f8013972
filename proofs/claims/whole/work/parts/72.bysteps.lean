/-! by how many steps harmlessness proves itself -/
def bs_h (nx : Nat → Nat → Option Nat) (B : Nat → Bool) (s : Nat) : Nat → Bool
  | 0 => false
  | k + 1 => bs_h nx B s k || (match nx s k with
    | none => false
    | some t => B t)
def bs_nx (fl : Nat → Nat → Bool) (nx : Nat → Nat → Option Nat) (K : Nat) (B : Nat → Bool) : Nat → Bool := fun s => !fl s 1 && bs_h nx B s K
def bs_an (B : Nat → Bool) : Nat → Bool
  | 0 => false
  | n + 1 => bs_an B n || B n
def bs_rn (N : Nat) (g : (Nat → Bool) → Nat → Bool) : Nat → Nat → (Nat → Bool) → Int32
  | 0, _, _ => -2
  | f + 1, k, B => if bs_an (g B) N = true then bs_rn N g f (k + 1) (g B) else nI k
def bs_fin (N K : Nat) (fl : Nat → Nat → Bool) (nx : Nat → Nat → Option Nat) : Int32 := if bs_an (fun s => fl s 1 && fl s 2) N = true then -2 else bs_rn N (bs_nx fl nx K) 20 1 (fun s => fl s 1)
theorem bs_h_mono {nx : Nat → Nat → Option Nat} {B : Nat → Bool} {s k : Nat} (h : bs_h nx B s k = true) : ∀ j, bs_h nx B s (k + j) = true := by
  intro j
  induction j with
  | zero => exact h
  | succ j ih => show (bs_h nx B s (k + j) || _) = true; rw [ih]; rfl
theorem bs_an_mono {B : Nat → Bool} {k : Nat} (h : bs_an B k = true) : ∀ j, bs_an B (k + j) = true := by
  intro j
  induction j with
  | zero => exact h
  | succ j ih => show (bs_an B (k + j) || _) = true; rw [ih]; rfl
theorem bs_h_congr {nx : Nat → Nat → Option Nat} {B B' : Nat → Bool} {s N K : Nat} (h : ∀ t, t < N → B t = B' t) (hx : ∀ k, k < K → ∀ t, nx s k = some t → t < N) : bs_h nx B s K = bs_h nx B' s K := by
  induction K with
  | zero => rfl
  | succ K ih =>
    show (bs_h nx B s K || _) = (bs_h nx B' s K || _)
    rw [ih (fun k hk => hx k (by omega))]
    cases e : nx s K with
    | none => rfl
    | some t => dsimp only; rw [h t (hx K (by omega) t e)]
theorem am_bI_or (a b : Bool) : (am_bI a ||| am_bI b) = am_bI (a || b) := by cases a <;> cases b <;> decide
theorem am_nb (b : Bool) : narrow .boolean (.int (am_bI b)) = .int (am_bI b) := by cases b <;> rfl
section BYS
variable {d N K T : Nat} {tb : Nat → Int32} {fl : Nat → Nat → Bool} {nx : Nat → Nat → Option Nat} {σ : am_St} {B : Nat → Bool}
theorem sp_3_hasNear (hW : am_Wo σ N K T tb fl nx) (hB : ∀ s, s < N → am_A σ 15 4 s = am_bI (B s)) {s : Nat} (hs : s < N) : am_C false ya_3_hasNear d [.ref (am_oid 15), .int (nI s)] σ (fun r τ => τ = σ ∧ r = some (.int (am_bI (bs_h nx B s K)))) := by
  obtain ⟨w1, w2, w3, w4, w5, w6, w7, w8⟩ := id hW
  have loop : ∀ (j k : Nat), k + j = K → bs_h nx B s k = false → ∀ a3 : Option Value, am_T false ya_3_hasNear d (fun r τ => τ = σ ∧ r = some (.int (am_bI (bs_h nx B s K)))) 2 [some (.ref (am_oid 15)), some (.int (nI s)), some (.int (nI k)), a3] [] σ := by
    intro j
    induction j with
    | zero =>
      intro k hk h a3
      have : k = K := by omega
      subst this
      refine kb_3_hasNear_2 (kt := fun _ => kb_3_hasNear_49 ⟨rfl, by rw [h]; rfl⟩) (kf := fun z => absurd ?_ z)
      rw [w5]; exact nI_le (by omega) (by omega)
    | succ j ih =>
      intro k hk h a3
      obtain ⟨g1, g2⟩ := w8 s hs k (by omega)
      have eT : am_A σ 4 11 (nI s * 8 + nI k).toNatClampNeg = am_oI (-2) (nx s k) := by rw [am_ix8, nI_clamp (by omega)]; exact g1
      have no : (match nx s k with | none => false | some t => B t) = false → ∀ a3 : Option Value, am_T false ya_3_hasNear d (fun r τ => τ = σ ∧ r = some (.int (am_bI (bs_h nx B s K)))) 43 [some (.ref (am_oid 15)), some (.int (nI s)), some (.int (nI k)), a3] [] σ := fun z a3 => by
        refine kb_3_hasNear_43 (k := ?_)
        rw [nI_1]
        refine ih (k + 1) (by omega) ?_ _
        show (bs_h nx B s k || _) = false
        rw [h, z]; rfl
      refine kb_3_hasNear_2 (kt := fun z => absurd z ?_) (kf := fun _ => ?_)
      · rw [w5]; exact nI_ge (by omega) (by omega)
      refine kb_3_hasNear_13 (hi0 := by rw [am_ix8]; exact vp_in_nI (by omega) (by omega)) (kt := fun z => ?_) (kf := fun z => ?_)
      · rw [eT, am_oI_neg g2 w1 _ am_neg2] at z
        exact no (by rw [z]) _
      · rw [eT, am_oI_neg g2 w1 _ am_neg2] at z
        rw [eT]
        cases hx : nx s k with
        | none => exact absurd hx z
        | some t =>
          have ht := g2 t hx
          show am_T _ _ _ _ _ [_, _, _, some (.int (nI t))] _ _
          refine kb_3_hasNear_32 (hi0 := vp_in_nI (by omega) (by omega)) (kt := fun y => ?_) (kf := fun y => ?_)
          · rw [nI_clamp (by omega), hB t ht, am_bI_0] at y
            exact no (by rw [hx]; exact y) _
          · rw [nI_clamp (by omega), hB t ht, am_bI_0] at y
            refine kb_3_hasNear_41 ⟨rfl, ?_⟩
            have h1 : bs_h nx B s (k + 1) = true := by
              show (bs_h nx B s k || _) = true
              rw [hx]; simp at y; simp [y]
            have := bs_h_mono h1 j
            rw [show k + 1 + j = K by omega] at this
            rw [this]; rfl
  refine am_enter rfl (by simp [Value.category]) (Nat.le_of_ble_eq_true rfl) (kb_3_hasNear_0 (k := ?_))
  have := loop K 0 (by omega) rfl none
  rw [nI_0] at this
  exact this
theorem sp_3_stepBack (hW : am_Wo σ N K T tb fl nx) (hB : ∀ s, s < N → am_A σ 15 4 s = am_bI (B s)) : am_C false ya_3_stepBack (d + 1) [.ref (am_oid 15)] σ (fun r τ => r = some (.int (am_bI (bs_an (bs_nx fl nx K B) N))) ∧ am_On 15 σ τ ∧ (∀ k, am_I τ 15 k = am_I σ 15 k) ∧ ∀ s, s < N → am_A τ 15 4 s = am_bI (bs_nx fl nx K B s)) := by
  obtain ⟨w1, w2, w3, w4, w5, w6, w7, w8⟩ := id hW
  obtain ⟨B', hB'⟩ : ∃ B', B' = bs_nx fl nx K B := ⟨_, rfl⟩
  rw [← hB']
  generalize hQ : (fun (r : Option Value) (τ : am_St) => r = some (.int (am_bI (bs_an B' N))) ∧ am_On 15 σ τ ∧ (∀ k, am_I τ 15 k = am_I σ 15 k) ∧ ∀ s, s < N → am_A τ 15 4 s = am_bI (B' s)) = Q
  have loop2 : ∀ (f : Nat → Int32), (∀ s, s < N → f s = am_bI (B' s)) → ∀ (j s : Nat), s + j = N → ∀ g : Nat → Int32, (∀ z, z < s → g z = am_bI (B' z)) → am_T false ya_3_stepBack (d + 1) Q 65 [some (.ref (am_oid 15)), some (.int (am_bI (bs_an B' N))), some (.int (nI s))] [] (am_sA (am_sA σ 15 5 f) 15 4 g) := by
    intro f hf j
    induction j with
    | zero =>
      intro s hs g hg
      have : s = N := by omega
      subst this
      refine kb_3_stepBack_65 (kt := fun _ => kb_3_stepBack_94 (hb0 := am_nb _) (hq := ?_)) (kf := fun z => absurd ?_ z)
      · rw [← hQ]
        exact ⟨rfl, ⟨fun _ _ _ => rfl, fun o k ho => by rw [am_A_sA, if_neg (fun z => ho z.2), am_A_sA, if_neg (fun z => ho z.2)], rfl⟩, fun _ => rfl, fun s hs => by rw [am_A_sA, if_pos ⟨rfl, rfl⟩]; exact hg s hs⟩
      · show am_I σ 4 5 ≤ _
        rw [w4]; exact nI_le (by omega) (by omega)
    | succ j ih =>
      intro s hs g hg
      have v : vp_in (nI s) 600 := vp_in_nI (by omega) (by omega)
      refine kb_3_stepBack_65 (kt := fun z => absurd z ?_) (kf := fun _ => ?_)
      · show ¬ am_I σ 4 5 ≤ _
        rw [w4]; exact nI_ge (by omega) (by omega)
      refine kb_3_stepBack_76 (hi0 := v) (hi1 := v) (k := ?_)
      rw [nI_1, nI_clamp (by omega), am_sA_sA]
      refine ih (s + 1) (by omega) _ (fun z hz => ?_)
      rw [am_A_sA, if_pos ⟨rfl, rfl⟩, am_A_sA, if_neg (by simp), am_A_sA, if_pos ⟨rfl, rfl⟩]
      by_cases c : z = s
      · rw [c, upd_s, hf s (by omega), vp_nar_bI]
      · rw [upd_n c]; exact hg z (by omega)
  have loop1 : ∀ (j s : Nat), s + j = N → ∀ f : Nat → Int32, (∀ z, z < s → f z = am_bI (B' z)) → am_T false ya_3_stepBack (d + 1) Q 4 [some (.ref (am_oid 15)), some (.int (am_bI (bs_an B' s))), some (.int (nI s))] [] (am_sA σ 15 5 f) := by
    intro j
    induction j with
    | zero =>
      intro s hs f hf
      have : s = N := by omega
      subst this
      refine kb_3_stepBack_4 (kt := fun _ => kb_3_stepBack_63 (k := ?_)) (kf := fun z => absurd ?_ z)
      · have := loop2 f hf s 0 (by omega) (am_A (am_sA σ 15 5 f) 15 4) (fun z hz => absurd hz (Nat.not_lt_zero z))
        rw [am_sA_id, nI_0] at this
        exact this
      · show am_I σ 4 5 ≤ _
        rw [w4]; exact nI_le (by omega) (by omega)
    | succ j ih =>
      intro s hs f hf
      have v : vp_in (nI s) 600 := vp_in_nI (by omega) (by omega)
      obtain ⟨g1, g2⟩ := w7 s (by omega)
      have eF : am_A (am_sA σ 15 5 f) 4 9 (nI s).toNatClampNeg = am_f4 (fl s 0) (fl s 1) (fl s 2) (fl s 3) := by rw [am_A_sA, if_neg (by simp), nI_clamp (by omega)]; exact g2
      have hW' : am_Wo (am_sA σ 15 5 f) N K T tb fl nx := hW.same (fun _ => rfl) (fun k => by rw [am_A_sA, if_neg (by simp)])
      have fin : am_T false ya_3_stepBack (d + 1) Q 47 [some (.ref (am_oid 15)), some (.int (am_bI (bs_an B' s))), some (.int (nI s))] [.int (am_bI (B' s)), .int (nI s), .ref (am_aid 15 5)] (am_sA σ 15 5 f) := by
        refine kb_3_stepBack_47 (hi0 := v) (hi1 := v) (k := ?_)
        rw [nI_1, nI_clamp (by omega), am_sA_sA, upd_s, vp_nar_bI, am_bI_or]
        refine ih (s + 1) (by omega) _ (fun z hz => ?_)
        rw [am_A_sA, if_pos ⟨rfl, rfl⟩]
        by_cases c : z = s
        · rw [c, upd_s]
        · rw [upd_n c]; exact hf z (by omega)
      refine kb_3_stepBack_4 (kt := fun z => absurd z ?_) (kf := fun _ => ?_)
      · show ¬ am_I σ 4 5 ≤ _
        rw [w4]; exact nI_ge (by omega) (by omega)
      refine kb_3_stepBack_15 (hi0 := v) (kt := fun y => ?_) (kf := fun y => ?_)
      · rw [eF, (am_f4_and _ _ _ _).2.1] at y
        have hb : B' s = false := by rw [hB']; unfold bs_nx; simp at y; simp [y]
        rw [hb] at fin
        exact kb_3_stepBack_46 (k := fin)
      · rw [eF, (am_f4_and _ _ _ _).2.1] at y
        have hb : B' s = bs_h nx B s K := by rw [hB']; unfold bs_nx; simp [y]
        refine kb_3_stepBack_34 (hC := sp_3_hasNear hW' (fun z hz => by rw [am_A_sA, if_neg (by simp)]; exact hB z hz) (show s < N by omega)) (k := fun r τ hr => ?_)
        obtain ⟨rfl, rfl⟩ := hr
        rw [← hb]
        cases hc : B' s with
        | false =>
          rw [hc] at fin
          exact kb_3_stepBack_39 (kt := fun _ => kb_3_stepBack_46 (k := fin)) (kf := fun z => absurd rfl z)
        | true =>
          rw [hc] at fin
          exact kb_3_stepBack_39 (kt := fun z => absurd z (by decide)) (kf := fun _ => kb_3_stepBack_42 (k := fin))
  refine am_enter rfl (by simp [Value.category]) (Nat.le_of_ble_eq_true rfl) (kb_3_stepBack_0 (k := ?_))
  have := loop1 N 0 (by omega) (am_A σ 15 5) (fun z hz => absurd hz (Nat.not_lt_zero z))
  rw [am_sA_id, nI_0] at this
  exact this
theorem sp_3_leastInduction (hW : am_Wo σ N K T tb fl nx) : am_C false ya_3_leastInduction (d + 2) [.ref (am_oid 15)] σ (fun r τ => r = some (.int (bs_fin N K fl nx)) ∧ am_On 15 σ τ ∧ ∀ k, am_I τ 15 k = am_I σ 15 k) := by
  obtain ⟨w1, w2, w3, w4, w5, w6, w7, w8⟩ := id hW
  generalize hQ : (fun (r : Option Value) (τ : am_St) => r = some (.int (bs_fin N K fl nx)) ∧ am_On 15 σ τ ∧ ∀ k, am_I τ 15 k = am_I σ 15 k) = Q
  have e20 : (20 : Int32) = nI 20 := by decide
  have run : ∀ (f k : Nat) (B : Nat → Bool) (τ : am_St), k + f = 21 → am_On 15 σ τ → (∀ k, am_I τ 15 k = am_I σ 15 k) → (∀ s, s < N → am_A τ 15 4 s = am_bI (B s)) → bs_rn N (bs_nx fl nx K) f k B = bs_fin N K fl nx → ∀ a2 : Option Value, am_T false ya_3_leastInduction (d + 2) Q 66 [some (.ref (am_oid 15)), some (.int (nI k)), a2] [] τ := by
    intro f
    induction f with
    | zero =>
      intro k B τ hk hO hI hB hr a2
      refine kb_3_leastInduction_66 (kt := fun _ => kb_3_leastInduction_87 ?_) (kf := fun z => absurd ?_ z)
      · rw [← hQ, ← hr]; exact ⟨rfl, hO, hI⟩
      · rw [e20]; exact nI_lt (by omega) (by omega)
    | succ f ih =>
      intro k B τ hk hO hI hB hr a2
      have hr' : (if bs_an (bs_nx fl nx K B) N = true then bs_rn N (bs_nx fl nx K) f (k + 1) (bs_nx fl nx K B) else nI k) = bs_fin N K fl nx := hr
      have hW' : am_Wo τ N K T tb fl nx := hW.same (fun k => hO.1 4 k (by decide)) (fun k => hO.2.1 4 k (by decide))
      refine kb_3_leastInduction_66 (kt := fun z => absurd z ?_) (kf := fun _ => ?_)
      · rw [e20]; exact nI_nlt (by omega) (by omega)
      refine kb_3_leastInduction_72 (hC := sp_3_stepBack hW' hB) (k := fun r τ1 hr1 => ?_)
      obtain ⟨rfl, hO1, hI1, hB1⟩ := hr1
      have hO2 : am_On 15 σ τ1 := ⟨fun o k ho => (hO1.1 o k ho).trans (hO.1 o k ho), fun o k ho => (hO1.2.1 o k ho).trans (hO.2.1 o k ho), hO1.2.2.trans hO.2.2⟩
      cases hc : bs_an (bs_nx fl nx K B) N with
      | true =>
        rw [hc, if_pos rfl] at hr'
        refine kb_3_leastInduction_76 (kt := fun _ => kb_3_leastInduction_81 (k := ?_)) (kf := fun z => absurd z (by decide))
        rw [nI_1]
        exact ih (k + 1) _ τ1 (by omega) hO2 (fun k => (hI1 k).trans (hI k)) hB1 hr' _
      | false =>
        rw [hc, if_neg (by decide)] at hr'
        refine kb_3_leastInduction_76 (kt := fun z => absurd rfl z) (kf := fun _ => kb_3_leastInduction_79 ?_)
        rw [← hQ, ← hr']; exact ⟨rfl, hO2, fun k => (hI1 k).trans (hI k)⟩
  have loop : ∀ (j s : Nat), s + j = N → bs_an (fun s => fl s 1 && fl s 2) s = false → ∀ g : Nat → Int32, (∀ z, z < s → g z = am_bI (fl z 1)) → ∀ a2 : Option Value, am_T false ya_3_leastInduction (d + 2) Q 2 [some (.ref (am_oid 15)), some (.int (nI s)), a2] [] (am_sA σ 15 4 g) := by
    intro j
    induction j with
    | zero =>
      intro s hs h g hg a2
      have : s = N := by omega
      subst this
      refine kb_3_leastInduction_2 (kt := fun _ => kb_3_leastInduction_64 (k := ?_)) (kf := fun z => absurd ?_ z)
      · have := run 20 1 (fun s => fl s 1) (am_sA σ 15 4 g) (by omega) ⟨fun _ _ _ => rfl, fun o k ho => by rw [am_A_sA, if_neg (fun z => ho z.2)], rfl⟩ (fun _ => rfl) (fun s hs => by rw [am_A_sA, if_pos ⟨rfl, rfl⟩]; exact hg s hs) (by unfold bs_fin; rw [h]; rfl) a2
        rw [show nI 1 = (1 : Int32) from rfl] at this
        exact this
      · show am_I σ 4 5 ≤ _
        rw [w4]; exact nI_le (by omega) (by omega)
    | succ j ih =>
      intro s hs h g hg a2
      have v : vp_in (nI s) 600 := vp_in_nI (by omega) (by omega)
      obtain ⟨g1, g2⟩ := w7 s (by omega)
      have eF : am_A (am_sA σ 15 4 g) 4 9 (nI s).toNatClampNeg = am_f4 (fl s 0) (fl s 1) (fl s 2) (fl s 3) := by rw [am_A_sA, if_neg (by simp), nI_clamp (by omega)]; exact g2
      have hg' : ∀ z, z < s + 1 → upd g s (am_bI (fl s 1)) z = am_bI (fl z 1) := fun z hz => by
        by_cases c : z = s
        · rw [c, upd_s]
        · rw [upd_n c]; exact hg z (by omega)
      have an : ∀ b, (fl s 1 && fl s 2) = b → bs_an (fun s => fl s 1 && fl s 2) (s + 1) = b := fun b hb => by
        show (bs_an _ s || _) = b
        rw [h]; exact hb
      have go : (fl s 1 && fl s 2) = false → ∀ a2 : Option Value, am_T false ya_3_leastInduction (d + 2) Q 58 [some (.ref (am_oid 15)), some (.int (nI s)), a2] [] (am_sA σ 15 4 (upd g s (am_bI (fl s 1)))) := fun hb a2 => by
        refine kb_3_leastInduction_58 (k := ?_)
        rw [nI_1]
        exact ih (s + 1) (by omega) (an _ hb) _ hg' _
      refine kb_3_leastInduction_2 (kt := fun z => absurd z ?_) (kf := fun _ => ?_)
      · show ¬ am_I σ 4 5 ≤ _
        rw [w4]; exact nI_ge (by omega) (by omega)
      refine kb_3_leastInduction_13 (hi0 := v) (kt := fun y => ?_) (kf := fun y => ?_)
      · rw [eF, (am_f4_and _ _ _ _).2.1] at y
        rw [eF]
        rw [y] at go
        refine kb_3_leastInduction_38 (k := kb_3_leastInduction_39 (hi0 := v) (hi1 := v) (kt := fun _ => ?_) (kf := fun z => absurd ?_ z))
        · rw [nI_clamp (by omega), am_sA_sA, am_A_sA, if_pos ⟨rfl, rfl⟩]
          exact go rfl _
        · rw [nI_clamp (by omega), upd_s]; rfl
      · rw [eF, (am_f4_and _ _ _ _).2.1] at y
        rw [eF]
        have y' : fl s 1 = true := by simpa using y
        rw [y'] at go an
        refine kb_3_leastInduction_34 (k := kb_3_leastInduction_39 (hi0 := v) (hi1 := v) (kt := fun z => absurd z ?_) (kf := fun _ => ?_))
        · rw [nI_clamp (by omega), upd_s]; decide
        · rw [nI_clamp (by omega), am_sA_sA, am_A_sA, if_pos ⟨rfl, rfl⟩]
          refine kb_3_leastInduction_49 (kt := fun x => ?_) (kf := fun x => ?_)
          · rw [(am_f4_and _ _ _ _).2.2.1] at x
            exact go (by rw [x]; rfl) _
          · rw [(am_f4_and _ _ _ _).2.2.1] at x
            have h1 := an true (by simp at x; simp [x])
            have h2 := bs_an_mono h1 j
            rw [show s + 1 + j = N by omega] at h2
            refine kb_3_leastInduction_55 ?_
            rw [← hQ]
            refine ⟨?_, ⟨fun _ _ _ => rfl, fun o k ho => by rw [am_A_sA, if_neg (fun z => ho z.2)], rfl⟩, fun _ => rfl⟩
            unfold bs_fin
            rw [if_pos h2]
  refine am_enter rfl (by simp [Value.category]) (Nat.le_of_ble_eq_true rfl) (kb_3_leastInduction_0 (k := ?_))
  have := loop N 0 (by omega) rfl (am_A σ 15 4) (fun z hz => absurd hz (Nat.not_lt_zero z)) none
  rw [am_sA_id, nI_0] at this
  exact this
/-! the reference's -/
theorem sp_11_goesBack (hW : mo_Wo σ N K T tb fl nx) (hB : ∀ s, s < N → am_A σ 16 49 s = am_bI (B s)) : am_C true ya_11_goesBack d [.ref (am_oid 16)] σ (fun r τ => r = some (.int (am_bI (bs_an (bs_nx fl nx K B) N))) ∧ mo_Fr [0] [48, 49] σ τ ∧ ∀ s, s < N → am_A τ 16 49 s = am_bI (bs_nx fl nx K B s)) := by
  obtain ⟨w1, w2, w3, w4, w5, w6, w7, w8⟩ := id hW
  obtain ⟨B', hB'⟩ : ∃ B', B' = bs_nx fl nx K B := ⟨_, rfl⟩
  rw [← hB']
  generalize hQ : (fun (r : Option Value) (τ : am_St) => r = some (.int (am_bI (bs_an B' N))) ∧ mo_Fr [0] [48, 49] σ τ ∧ ∀ s, s < N → am_A τ 16 49 s = am_bI (B' s)) = Q
  have loop2 : ∀ (f : Nat → Int32), (∀ s, s < N → f s = am_bI (B' s)) → ∀ (j s : Nat), s + j = N → ∀ g : Nat → Int32, (∀ z, z < s → g z = am_bI (B' z)) → ∀ (a3 a4 : Option Value), am_T true ya_11_goesBack d Q 122 [some (.ref (am_oid 16)), some (.int (am_bI (bs_an B' N))), some (.int (nI s)), a3, a4] [] (am_sA (am_sA σ 16 48 f) 16 49 g) := by
    intro f hf j
    induction j with
    | zero =>
      intro s hs g hg a3 a4
      have : s = N := by omega
      subst this
      refine kb_11_goesBack_122 (kt := fun _ => kb_11_goesBack_148 (hb0 := am_nb _) (hq := ?_)) (kf := fun z => absurd ?_ z)
      · rw [← hQ]
        exact ⟨rfl, (mo_Fr.rf.sA (by rfl) _).sA (by rfl) _, fun s hs => by rw [am_A_sA, if_pos ⟨rfl, rfl⟩]; exact hg s hs⟩
      · show am_I σ 16 17 ≤ _
        rw [w4]; exact nI_le (by omega) (by omega)
    | succ j ih =>
      intro s hs g hg a3 a4
      have v : vp_in (nI s) 600 := vp_in_nI (by omega) (by omega)
      refine kb_11_goesBack_122 (kt := fun z => absurd z ?_) (kf := fun _ => ?_)
      · show ¬ am_I σ 16 17 ≤ _
        rw [w4]; exact nI_ge (by omega) (by omega)
      refine kb_11_goesBack_130 (hi0 := v) (hi1 := v) (k := ?_)
      rw [nI_1, nI_clamp (by omega), am_sA_sA]
      refine ih (s + 1) (by omega) _ (fun z hz => ?_) _ _
      rw [am_A_sA, if_pos ⟨rfl, rfl⟩, am_A_sA, if_neg (by simp), am_A_sA, if_pos ⟨rfl, rfl⟩]
      by_cases c : z = s
      · rw [c, upd_s, hf s (by omega), vp_nar_bI]
      · rw [upd_n c]; exact hg z (by omega)
  have loop1 : ∀ (j s : Nat), s + j = N → ∀ f : Nat → Int32, (∀ z, z < s → f z = am_bI (B' z)) → ∀ (a3 a4 : Option Value), am_T true ya_11_goesBack d Q 4 [some (.ref (am_oid 16)), some (.int (am_bI (bs_an B' s))), some (.int (nI s)), a3, a4] [] (am_sA σ 16 48 f) := by
    intro j
    induction j with
    | zero =>
      intro s hs f hf a3 a4
      have : s = N := by omega
      subst this
      refine kb_11_goesBack_4 (kt := fun _ => kb_11_goesBack_120 (k := ?_)) (kf := fun z => absurd ?_ z)
      · have := loop2 f hf s 0 (by omega) (am_A (am_sA σ 16 48 f) 16 49) (fun z hz => absurd hz (Nat.not_lt_zero z)) a3 a4
        rw [am_sA_id, nI_0] at this
        exact this
      · show am_I σ 16 17 ≤ _
        rw [w4]; exact nI_le (by omega) (by omega)
    | succ j ih =>
      intro s hs f hf a3 a4
      have v : vp_in (nI s) 600 := vp_in_nI (by omega) (by omega)
      obtain ⟨-, -, g2, -⟩ := w7 s (by omega)
      have eF : ∀ f, am_A (am_sA σ 16 48 f) 16 20 (nI s).toNatClampNeg = am_bI (fl s 1) := fun f => by rw [am_A_sA, if_neg (by simp), nI_clamp (by omega)]; exact g2
      -- behind the steps
      have fin : ∀ f : Nat → Int32, (∀ z, z < s + 1 → f z = am_bI (B' z)) → ∀ (a3 a4 : Option Value), am_T true ya_11_goesBack d Q 95 [some (.ref (am_oid 16)), some (.int (am_bI (bs_an B' s))), some (.int (nI s)), a3, a4] [] (am_sA σ 16 48 f) := fun f hf a3 a4 => by
        have e : bs_an B' (s + 1) = (bs_an B' s || B' s) := rfl
        have next := ih (s + 1) (by omega) f hf
        rw [e] at next
        cases h1 : bs_an B' s with
        | true =>
          rw [h1] at next
          refine kb_11_goesBack_95 (kt := fun _ => kb_11_goesBack_108 (k := kb_11_goesBack_113 (k := ?_))) (kf := fun z => absurd z (by decide))
          rw [nI_1]; exact next _ _
        | false =>
          rw [h1] at next
          refine kb_11_goesBack_95 (kt := fun z => absurd rfl z) (kf := fun _ => ?_)
          cases h2 : B' s with
          | true =>
            rw [h2] at next
            refine kb_11_goesBack_99 (hi0 := v) (kt := fun z => absurd z ?_) (kf := fun _ => kb_11_goesBack_108 (k := kb_11_goesBack_113 (k := ?_)))
            · rw [am_A_sA, if_pos ⟨rfl, rfl⟩, nI_clamp (by omega), hf s (by omega), h2]; decide
            · rw [nI_1]; exact next _ _
          | false =>
            rw [h2] at next
            refine kb_11_goesBack_99 (hi0 := v) (kt := fun _ => kb_11_goesBack_112 (k := kb_11_goesBack_113 (k := ?_))) (kf := fun z => absurd ?_ z)
            · rw [nI_1]; exact next _ _
            · rw [am_A_sA, if_pos ⟨rfl, rfl⟩, nI_clamp (by omega), hf s (by omega), h2]; rfl
      refine kb_11_goesBack_4 (kt := fun z => absurd z ?_) (kf := fun _ => ?_)
      · show ¬ am_I σ 16 17 ≤ _
        rw [w4]; exact nI_ge (by omega) (by omega)
      refine kb_11_goesBack_12 (hi0 := v) (k := ?_)
      rw [nI_clamp (by omega), am_sA_sA, am_A_sA, if_pos ⟨rfl, rfl⟩]
      cases hbad : fl s 1 with
      | true =>
        have hb : B' s = false := by rw [hB']; unfold bs_nx; simp [hbad]
        have hf' : ∀ z, z < s + 1 → upd f s (vp_nar .boolean 0) z = am_bI (B' z) := fun z hz => by
          by_cases c : z = s
          · rw [c, upd_s, hb]; rfl
          · rw [upd_n c]; exact hf z (by omega)
        by_cases hK : K = 0
        · refine kb_11_goesBack_21 (kt := fun _ => fin _ hf' _ _) (kf := fun z => absurd ?_ z)
          show am_A σ 16 3 3 ≤ 0
          rw [w5, hK, nI_0]; exact Int32.le_refl 0
        · refine kb_11_goesBack_21 (kt := fun z => absurd z ?_) (kf := fun _ => ?_)
          · show ¬ am_A σ 16 3 3 ≤ 0
            rw [w5]; exact nI_nle (by omega) (by omega)
          · refine kb_11_goesBack_31 (hi0 := v) (kt := fun _ => fin _ hf' _ _) (kf := fun z => absurd z ?_)
            rw [eF, hbad]; decide
      | false =>
        have hb : B' s = bs_h nx B s K := by rw [hB']; unfold bs_nx; simp [hbad]
        have inner : ∀ (m k : Nat), k + m = K → ∀ a4 : Option Value, am_T true ya_11_goesBack d Q 21 [some (.ref (am_oid 16)), some (.int (am_bI (bs_an B' s))), some (.int (nI s)), some (.int (nI k)), a4] [] (am_sA σ 16 48 (upd f s (am_bI (bs_h nx B s k)))) := by
          intro m
          induction m with
          | zero =>
            intro k hk a4
            have : k = K := by omega
            subst this
            refine kb_11_goesBack_21 (kt := fun _ => fin _ (fun z hz => ?_) _ _) (kf := fun z => absurd ?_ z)
            · by_cases c : z = s
              · rw [c, upd_s, hb]
              · rw [upd_n c]; exact hf z (by omega)
            · show am_A σ 16 3 3 ≤ _
              rw [w5]; exact nI_le (by omega) (by omega)
          | succ m ihm =>
            intro k hk a4
            obtain ⟨g1, g3⟩ := w8 s (by omega) k (by omega)
            have eT : am_A (am_sA σ 16 48 (upd f s (am_bI (bs_h nx B s k)))) 16 23 ((8 : Int32) * nI s + nI k).toNatClampNeg = am_oI (-1) (nx s k) := by rw [am_A_sA, if_neg (by simp), am_ix8', nI_clamp (by omega)]; exact g1
            have e48 : am_A (am_sA σ 16 48 (upd f s (am_bI (bs_h nx B s k)))) 16 48 (nI s).toNatClampNeg = am_bI (bs_h nx B s k) := by rw [am_A_sA, if_pos ⟨rfl, rfl⟩, nI_clamp (by omega), upd_s]
            have put : ∀ b : Bool, bs_h nx B s (k + 1) = b → ∀ a4 : Option Value, am_T true ya_11_goesBack d Q 88 [some (.ref (am_oid 16)), some (.int (am_bI (bs_an B' s))), some (.int (nI s)), some (.int (nI k)), a4] [.int (am_bI b), .int (nI s), .ref (am_aid 16 48)] (am_sA σ 16 48 (upd f s (am_bI (bs_h nx B s k)))) := fun b hb a4 => by
              refine kb_11_goesBack_88 (hi0 := v) (k := ?_)
              rw [nI_1, nI_clamp (by omega), am_sA_sA, vp_nar_bI, am_A_sA, if_pos ⟨rfl, rfl⟩]
              have := ihm (k + 1) (by omega) a4
              rw [hb] at this
              have ee : upd (upd f s (am_bI (bs_h nx B s k))) s (am_bI b) = upd f s (am_bI b) := by
                funext z
                by_cases c : z = s
                · rw [c, upd_s, upd_s]
                · rw [upd_n c, upd_n c, upd_n c]
              rw [ee]
              exact this
            refine kb_11_goesBack_21 (kt := fun z => absurd z ?_) (kf := fun _ => ?_)
            · show ¬ am_A σ 16 3 3 ≤ _
              rw [w5]; exact nI_ge (by omega) (by omega)
            refine kb_11_goesBack_31 (hi0 := v) (kt := fun z => absurd ?_ z) (kf := fun _ => ?_)
            · rw [eF, hbad]; rfl
            refine kb_11_goesBack_40 (hi0 := by rw [am_ix8']; exact vp_in_nI (by omega) (by omega)) (hi1 := v) (kt := fun z => ?_) (kf := fun z => ?_)
            · rw [e48, am_bI_0] at z
              refine kb_11_goesBack_83 (k := put true ?_ _)
              show (bs_h nx B s k || _) = true
              simp at z; simp [z]
            · rw [e48, am_bI_0] at z
              rw [eT]
              cases hx : nx s k with
              | none =>
                refine kb_11_goesBack_67 (kt := fun _ => kb_11_goesBack_87 (k := put false ?_ _)) (kf := fun y => absurd rfl y)
                show (bs_h nx B s k || _) = false
                rw [z, hx]; rfl
              | some t =>
                have ht := g3 t hx
                show am_T _ _ _ _ _ [_, _, _, _, some (.int (nI t))] _ _
                refine kb_11_goesBack_67 (kt := fun y => absurd y (nI_neg1 t (by omega))) (kf := fun _ => ?_)
                have eB : am_A (am_sA σ 16 48 (upd f s (am_bI (bs_h nx B s k)))) 16 49 (nI t).toNatClampNeg = am_bI (B t) := by rw [am_A_sA, if_neg (by simp), nI_clamp (by omega)]; exact hB t ht
                refine kb_11_goesBack_73 (hi0 := vp_in_nI (by omega) (by omega)) (kt := fun y => ?_) (kf := fun y => ?_)
                · rw [eB, am_bI_0] at y
                  refine kb_11_goesBack_87 (k := put false ?_ _)
                  show (bs_h nx B s k || _) = false
                  rw [z, hx]; exact y
                · rw [eB, am_bI_0] at y
                  refine kb_11_goesBack_83 (k := put true ?_ _)
                  show (bs_h nx B s k || _) = true
                  rw [z, hx]; simpa using y
        have := inner K 0 (by omega) a4
        rw [nI_0] at this
        exact this
  refine am_enter rfl (by simp [Value.category]) (Nat.le_of_ble_eq_true rfl) (kb_11_goesBack_0 (k := ?_))
  have := loop1 N 0 (by omega) (am_A σ 16 48) (fun z hz => absurd hz (Nat.not_lt_zero z)) none none
  rw [am_sA_id, nI_0] at this
  exact this
theorem sp_11_bySteps (hW : mo_Wo σ N K T tb fl nx) : am_C true ya_11_bySteps (d + 1) [.ref (am_oid 16)] σ (fun r τ => r = some (.int (bs_fin N K fl nx)) ∧ mo_Fr [0] [48, 49] σ τ) := by
  obtain ⟨w1, w2, w3, w4, w5, w6, w7, w8⟩ := id hW
  generalize hQ : (fun (r : Option Value) (τ : am_St) => r = some (.int (bs_fin N K fl nx)) ∧ mo_Fr [0] [48, 49] σ τ) = Q
  have e20 : (20 : Int32) = nI 20 := by decide
  have run : ∀ (f k : Nat) (B : Nat → Bool) (τ : am_St), k + f = 21 → mo_Fr [0] [48, 49] σ τ → (∀ s, s < N → am_A τ 16 49 s = am_bI (B s)) → bs_rn N (bs_nx fl nx K) f k B = bs_fin N K fl nx → am_T true ya_11_bySteps (d + 1) Q 56 [some (.ref (am_oid 16)), some (.int (nI k))] [] τ := by
    intro f
    induction f with
    | zero =>
      intro k B τ hk hO hB hr
      refine kb_11_bySteps_56 (kt := fun _ => kb_11_bySteps_77 ?_) (kf := fun z => absurd ?_ z)
      · rw [← hQ, ← hr]; exact ⟨rfl, hO⟩
      · rw [e20]; exact nI_lt (by omega) (by omega)
    | succ f ih =>
      intro k B τ hk hO hB hr
      have hr' : (if bs_an (bs_nx fl nx K B) N = true then bs_rn N (bs_nx fl nx K) f (k + 1) (bs_nx fl nx K B) else nI k) = bs_fin N K fl nx := hr
      have hW' : mo_Wo τ N K T tb fl nx := hW.same hO rfl (fun k hk => by rcases hk with rfl | rfl | rfl | rfl | rfl | rfl | rfl <;> rfl)
      refine kb_11_bySteps_56 (kt := fun z => absurd z ?_) (kf := fun _ => ?_)
      · rw [e20]; exact nI_nlt (by omega) (by omega)
      refine kb_11_bySteps_62 (hC := sp_11_goesBack hW' hB) (k := fun r τ1 hr1 => ?_)
      obtain ⟨rfl, hO1, hB1⟩ := hr1
      cases hc : bs_an (bs_nx fl nx K B) N with
      | true =>
        rw [hc, if_pos rfl] at hr'
        refine kb_11_bySteps_66 (kt := fun _ => kb_11_bySteps_71 (k := ?_)) (kf := fun z => absurd z (by decide))
        rw [nI_1]
        exact ih (k + 1) _ τ1 (by omega) (hO.tr hO1) hB1 hr'
      | false =>
        rw [hc, if_neg (by decide)] at hr'
        refine kb_11_bySteps_66 (kt := fun z => absurd rfl z) (kf := fun _ => kb_11_bySteps_69 ?_)
        rw [← hQ, ← hr']; exact ⟨rfl, hO.tr hO1⟩
  have f0 : ∀ g : Nat → Int32, mo_Fr [0] [48, 49] σ (am_sA (am_sI σ 16 0 0) 16 49 g) := fun g => (mo_Fr.rf.sI (by rfl) _).sA (by rfl) _
  have loop : ∀ (j s : Nat), s + j = N → bs_an (fun s => fl s 1 && fl s 2) s = false → ∀ g : Nat → Int32, (∀ z, z < s → g z = am_bI (fl z 1)) → am_T true ya_11_bySteps (d + 1) Q 7 [some (.ref (am_oid 16)), some (.int (nI s))] [] (am_sA (am_sI σ 16 0 0) 16 49 g) := by
    intro j
    induction j with
    | zero =>
      intro s hs h g hg
      have : s = N := by omega
      subst this
      refine kb_11_bySteps_7 (kt := fun _ => kb_11_bySteps_54 (k := ?_)) (kf := fun z => absurd ?_ z)
      · have := run 20 1 (fun s => fl s 1) _ (by omega) (f0 g) (fun s hs => by rw [am_A_sA, if_pos ⟨rfl, rfl⟩]; exact hg s hs) (by unfold bs_fin; rw [h]; rfl)
        rw [show nI 1 = (1 : Int32) from rfl] at this
        exact this
      · show am_I σ 16 17 ≤ _
        rw [w4]; exact nI_le (by omega) (by omega)
    | succ j ih =>
      intro s hs h g hg
      have v : vp_in (nI s) 600 := vp_in_nI (by omega) (by omega)
      obtain ⟨-, -, g2, g3, -⟩ := w7 s (by omega)
      have e20' : am_A (am_sA (am_sI σ 16 0 0) 16 49 g) 16 20 (nI s).toNatClampNeg = am_bI (fl s 1) := by rw [am_A_sA, if_neg (by simp), nI_clamp (by omega)]; exact g2
      have e21 : am_A (am_sA (am_sI σ 16 0 0) 16 49 g) 16 21 (nI s).toNatClampNeg = am_bI (fl s 2) := by rw [am_A_sA, if_neg (by simp), nI_clamp (by omega)]; exact g3
      have an : ∀ b, (fl s 1 && fl s 2) = b → bs_an (fun s => fl s 1 && fl s 2) (s + 1) = b := fun b hb => by
        show (bs_an _ s || _) = b
        rw [h]; exact hb
      have go : (fl s 1 && fl s 2) = false → am_T true ya_11_bySteps (d + 1) Q 36 [some (.ref (am_oid 16)), some (.int (nI s))] [] (am_sA (am_sI σ 16 0 0) 16 49 g) := fun hb => by
        refine kb_11_bySteps_36 (hi0 := v) (hi1 := v) (k := ?_)
        rw [nI_1, e20', nI_clamp (by omega), am_sA_sA, vp_nar_bI, am_A_sA, if_pos ⟨rfl, rfl⟩]
        refine ih (s + 1) (by omega) (an _ hb) _ (fun z hz => ?_)
        by_cases c : z = s
        · rw [c, upd_s]
        · rw [upd_n c]; exact hg z (by omega)
      refine kb_11_bySteps_7 (kt := fun z => absurd z ?_) (kf := fun _ => ?_)
      · show ¬ am_I σ 16 17 ≤ _
        rw [w4]; exact nI_ge (by omega) (by omega)
      refine kb_11_bySteps_15 (hi0 := v) (kt := fun y => ?_) (kf := fun y => ?_)
      · rw [e21, am_bI_0] at y
        exact go (by rw [y]; simp)
      · rw [e21, am_bI_0] at y
        refine kb_11_bySteps_24 (hi0 := v) (kt := fun x => ?_) (kf := fun x => ?_)
        · rw [e20', am_bI_0] at x
          exact go (by rw [x]; rfl)
        · rw [e20', am_bI_0] at x
          have h1 := an true (by simp at x y; simp [x, y])
          have h2 := bs_an_mono h1 j
          rw [show s + 1 + j = N by omega] at h2
          refine kb_11_bySteps_33 ?_
          rw [← hQ]
          refine ⟨?_, f0 g⟩
          unfold bs_fin
          rw [if_pos h2]
  refine am_enter rfl (by simp [Value.category]) (Nat.le_of_ble_eq_true rfl) (kb_11_bySteps_0 (k := ?_))
  have := loop N 0 (by omega) rfl (am_A (am_sI σ 16 0 0) 16 49) (fun z hz => absurd hz (Nat.not_lt_zero z))
  rw [am_sA_id, nI_0] at this
  exact this
end BYS
