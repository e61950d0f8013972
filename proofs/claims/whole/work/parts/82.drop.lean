/-! the class's Shortener: dropTests -/
theorem cn_at {f : Nat → Bool} {k r : Nat} (hk : k < r) : am_cn f r = am_cn (fun j => !(j == k) && f j) r + (if f k = true then 1 else 0) := by
  induction r with
  | zero => exact absurd hk (Nat.not_lt_zero k)
  | succ r ih =>
    unfold am_cn
    by_cases e : k = r
    · subst e
      have : am_cn (fun j => !(j == k) && f j) k = am_cn f k := am_cn_congr (fun i hi => by
        have h1 : (i == k) = false := by simp; omega
        rw [h1]; rfl)
      rw [this]; simp
    · have h1 : (r == k) = false := by simp; omega
      rw [ih (by omega), h1]
      show _ + _ + _ = _ + (if (true && f r) = true then 1 else 0) + _
      rw [Bool.true_and]
      omega
theorem cn_uL {R : Nat → List Nat} {out : Nat → Bool} {k r : Nat} {x : Int32} {w : List Nat} (hk : k < r) (ho : out k = false) : am_cn (fun j => !out j && rw_h x (am_uL R k w j)) r = am_cn (fun j => !(j == k) && (!out j && rw_h x (R j))) r + (if rw_h x w = true then 1 else 0) := by
  rw [cn_at hk]
  congr 1
  · refine am_cn_congr (fun i _ => ?_)
    by_cases e : i = k
    · subst e; simp
    · unfold am_uL; rw [if_neg e]
  · unfold am_uL
    rw [if_pos rfl, ho]
    rfl
theorem cn_uB {R : Nat → List Nat} {out : Nat → Bool} {k r : Nat} {x : Int32} {b : Bool} (hk : k < r) : am_cn (fun j => !am_uB out k b j && rw_h x (R j)) r = am_cn (fun j => !(j == k) && (!out j && rw_h x (R j))) r + (if (!b && rw_h x (R k)) = true then 1 else 0) := by
  rw [cn_at hk]
  congr 1
  · refine am_cn_congr (fun i _ => ?_)
    by_cases e : i = k
    · subst e; simp
    · unfold am_uB; rw [if_neg e]
  · unfold am_uB
    rw [if_pos rfl]
theorem nI_bdec (m : Nat) (f : Bool) : nI (m + (if f = true then 1 else 0)) + (if f = true then -1 else 0) = nI m := by
  cases f
  · show nI (m + 0) + 0 = _; rw [Int32.add_zero]; rfl
  · exact nI_dec m
theorem nI_binc (m : Nat) (f : Bool) : nI m + (if f = true then 1 else 0) = nI (m + (if f = true then 1 else 0)) := by
  cases f
  · show nI m + 0 = nI (m + 0); rw [Int32.add_zero]; rfl
  · exact nI_1 m
theorem bs_an_dec {B : Nat → Bool} {n : Nat} : bs_an B n = decide (0 < am_cn B n) := by
  cases h : bs_an B n
  · rw [decide_eq_false]; rw [← bs_an_cn] at h; omega
  · rw [decide_eq_true]
    rcases Nat.eq_zero_or_pos (am_cn B n) with c | c
    · rw [bs_an_cn] at c; rw [c] at h; cases h
    · exact c
def sh_Cv (τ : am_St) (N : Nat) (tb : Nat → Int32) (r : Nat) (R : Nat → List Nat) (out : Nat → Bool) : Prop := ∀ s, s < N → am_A τ 14 7 s = nI (am_cn (fun k => !out k && rw_h (tb s) (R k)) r)
theorem sh_Cv.held {τ : am_St} {N r : Nat} {tb : Nat → Int32} {R : Nat → List Nat} {out : Nat → Bool} (h : sh_Cv τ N tb r R out) (hr : r ≤ 200) : ∀ s, s < N → ∃ c, c ≤ 200 ∧ am_A τ 14 7 s = nI c ∧ rs_in R out r (tb s) = decide (0 < c) := fun s hs => ⟨_, Nat.le_trans (am_cn_le _ _) hr, h s hs, bs_an_dec⟩
def sh_D (σ τ : am_St) (r : Nat) (R : Nat → List Nat) (k : Nat) (a b : List Nat) : Prop := am_On 14 σ τ ∧ (∀ q, am_I τ 14 q = am_I σ 14 q) ∧ am_A τ 14 3 = am_A σ 14 3 ∧ (∀ k', k' < r → k' ≠ k → sh_Rw τ k' (R k')) ∧ (∀ z, z < a.length → am_A τ 14 4 (16 * k + z) = rl_e a z) ∧ (∀ z, z < b.length → am_A τ 14 4 (16 * k + ((R k).length - b.length + z)) = rl_e b z) ∧ am_A τ 14 5 k = rw_m rw_a (a ++ b) ∧ am_A τ 14 6 k = rw_m rw_g (a ++ b)
theorem sh_D.s7 {σ τ : am_St} {r k : Nat} {R : Nat → List Nat} {a b : List Nat} (h : sh_D σ τ r R k a b) (F : Nat → Int32) : sh_D σ (am_sA τ 14 7 F) r R k a b := by
  obtain ⟨h1, h2, h3, h4, h5, h6, h7, h8⟩ := h
  have e : ∀ q, q ≠ 7 → am_A (am_sA τ 14 7 F) 14 q = am_A τ 14 q := fun q hq => by rw [am_A_sA, if_neg (fun z => hq z.1)]
  refine ⟨h1.sA 7 F, h2, by rw [e 3 (by decide)]; exact h3, fun k' a1 a2 => ?_, by rw [e 4 (by decide)]; exact h5, by rw [e 4 (by decide)]; exact h6, by rw [e 5 (by decide)]; exact h7, by rw [e 6 (by decide)]; exact h8⟩
  unfold sh_Rw
  rw [e 3 (by decide), e 4 (by decide), e 5 (by decide), e 6 (by decide)]
  exact h4 k' a1 a2
section SHD
variable {d N K T r k : Nat} {tb : Nat → Int32} {fl : Nat → Nat → Bool} {nx : Nat → Nat → Option Nat} {R : Nat → List Nat} {σ : am_St}
theorem sp_6_dropTests (hW : am_Wo σ N K T tb fl nx) (hr : r ≤ 200) (hR : ∀ k, k < r → sh_Rw σ k (R k)) (hC : sh_Cv σ N tb r R (fun _ => false)) (hok : ∀ k, rw_ok (R k) ∧ (R k).length ≤ 16) (hk : k < r) : am_C false ya_6_dropTests (d + 2) [.ref (am_oid 14), .int (nI k)] σ (fun r' τ => r' = none ∧ am_On 14 σ τ ∧ (∀ q, am_I τ 14 q = am_I σ 14 q) ∧ (∀ k', k' < r → sh_Rw τ k' (am_uL R k (sh_row (fun x => rs_P N K tb fl nx r (am_uL R k x) (fun _ => false)) [] (R k)) k')) ∧ sh_Cv τ N tb r (am_uL R k (sh_row (fun x => rs_P N K tb fl nx r (am_uL R k x) (fun _ => false)) [] (R k))) (fun _ => false)) := by
  obtain ⟨pv, hpv⟩ : ∃ pv : List Nat → Bool, pv = fun x => rs_P N K tb fl nx r (am_uL R k x) (fun _ => false) := ⟨_, rfl⟩
  rw [← hpv]
  generalize hQ : (fun (r' : Option Value) (τ : am_St) => r' = none ∧ am_On 14 σ τ ∧ (∀ q, am_I τ 14 q = am_I σ 14 q) ∧ (∀ k', k' < r → sh_Rw τ k' (am_uL R k (sh_row pv [] (R k)) k')) ∧ sh_Cv τ N tb r (am_uL R k (sh_row pv [] (R k))) (fun _ => false)) = Q
  obtain ⟨L, hL⟩ : ∃ L, L = (R k).length := ⟨_, rfl⟩
  have hL16 : L ≤ 16 := by rw [hL]; exact (hok k).2
  have hx := hW.2.2.2.2.2.2.2
  have vk : vp_in (nI k) 200 := vp_in_nI (by omega) (by omega)
  have ck : (nI k).toNatClampNeg = k := nI_clamp (by omega)
  obtain ⟨bs, hbs⟩ : ∃ bs : Nat → Nat, bs = fun s => am_cn (fun j => !(j == k) && (!(fun _ => false) j && rw_h (tb s) (R j))) r := ⟨_, rfl⟩
  have cvw : ∀ (w : List Nat) (s : Nat), am_cn (fun j => !(fun _ => false) j && rw_h (tb s) (am_uL R k w j)) r = bs s + (if rw_h (tb s) w = true then 1 else 0) := fun w s => by rw [hbs]; exact cn_uL hk rfl
  have loop : ∀ (b a : List Nat) (τ : am_St), rw_ok (a ++ b) → a.length + b.length ≤ L → sh_D σ τ r R k a b → sh_Cv τ N tb r (am_uL R k (a ++ b)) (fun _ => false) → sh_row pv [] (R k) = sh_row pv a b → ∀ a4 a5 a6 : Option Value, am_T false ya_6_dropTests (d + 2) Q 4 [some (.ref (am_oid 14)), some (.int (nI k)), some (.int (nI a.length)), some (.int (nI (L - b.length))), a4, a5, a6] [] τ := by
    intro b
    induction b with
    | nil =>
      intro a τ hk1 hl D C hsh a4 a5 a6
      obtain ⟨D1, D2, D3, D4, D5, D6, D7, D8⟩ := id D
      rw [List.append_nil] at C D7 D8 hk1
      have e3 : am_A τ 14 3 (nI k).toNatClampNeg = nI L := by rw [ck, D3, (hR k hk).1, hL]
      refine kb_6_dropTests_4 (hi0 := vk) (kt := fun _ => kb_6_dropTests_159 (hi0 := vk) (hq := ?_)) (kf := fun z => absurd (by rw [e3]; exact nI_le (by simp) (by simp; omega)) z)
      rw [ck, ← hQ, hsh]
      show none = none ∧ _
      have eq : sh_row pv a [] = a := rfl
      rw [eq]
      refine ⟨rfl, D1.sA 3 _, D2, fun k' hk' => ?_, fun s hs => ?_⟩
      · have e : ∀ q, q ≠ 3 → am_A (am_sA τ 14 3 (upd (am_A τ 14 3) k (nI a.length))) 14 q = am_A τ 14 q := fun q hq => by rw [am_A_sA, if_neg (fun z => hq z.1)]
        unfold sh_Rw
        rw [e 4 (by decide), e 5 (by decide), e 6 (by decide), am_A_sA, if_pos ⟨rfl, rfl⟩]
        by_cases c : k' = k
        · subst c
          unfold am_uL
          rw [if_pos rfl, upd_s]
          exact ⟨rfl, D5, D7, D8⟩
        · unfold am_uL
          rw [if_neg c, upd_n c]
          exact D4 k' hk' c
      · rw [am_A_sA, if_neg (by simp)]; exact C s hs
    | cons c b ih =>
      intro a τ hk1 hl D C hsh a4 a5 a6
      obtain ⟨D1, D2, D3, D4, D5, D6, D7, D8⟩ := id D
      obtain ⟨o1, o2, o3, o4⟩ := rw_ok_del hk1
      have hlen : (c :: b).length = b.length + 1 := rfl
      rw [hlen] at hl D6
      have hWτ : am_Wo τ N K T tb fl nx := D1.wo (by decide) hW
      have e3 : am_A τ 14 3 (nI k).toNatClampNeg = nI L := by rw [ck, D3, (hR k hk).1, hL]
      have ix : nI k * 16 + nI (L - (b.length + 1)) = nI (16 * k + (L - (b.length + 1))) := by rw [show (16 : Int32) = nI 16 from rfl, nI_mul, nI_add, Nat.mul_comm]
      have e0 : am_A τ 14 4 (nI k * 16 + nI (L - (b.length + 1))).toNatClampNeg = nI c := by
        rw [ix, nI_clamp (by omega)]
        have := D6 0 (by omega)
        rw [← hL, Nat.add_zero] at this
        exact this
      have eM : am_A τ 14 5 (nI k).toNatClampNeg = rw_m rw_a (a ++ c :: b) := by rw [ck]; exact D7
      have eG : am_A τ 14 6 (nI k).toNatClampNeg = rw_m rw_g (a ++ c :: b) := by rw [ck]; exact D8
      rw [hlen]
      refine kb_6_dropTests_4 (hi0 := vk) (kt := fun z => absurd z (by rw [e3]; exact nI_ge (by omega) (by omega))) (kf := fun _ => ?_)
      refine kb_6_dropTests_14 (hi0 := by rw [ix]; exact vp_in_nI (by omega) (by omega)) (hi1 := vk) (hC := by rw [e0]; exact sp_6_bitOf o4) (k := fun r' τ' hr' => ?_)
      obtain ⟨rfl, rfl⟩ := hr'
      rw [e0, eM]
      refine kb_6_dropTests_38 (hi1 := vk) (hC := sp_6_bitOf o4) (k := fun r' τ' hr' => ?_)
      obtain ⟨rfl, rfl⟩ := hr'
      rw [eG, rw_m_del hk1]
      refine kb_6_dropTests_54 (hi1 := vk) (hi2 := vk) (hC := by rw [eM, eG]; exact sp_6_addCover hWτ hk1 (-1)) (k := fun r' τ1 hr' => ?_)
      obtain ⟨rfl, F1, hτ1, hF1⟩ := hr'
      rw [rw_m_del hk1]
      have W1 : am_Wo τ1 N K T tb fl nx := by rw [hτ1]; exact (am_On.rf.sA 7 F1).wo (by decide) hWτ
      have f1 : ∀ s, s < N → am_A τ1 14 7 s = nI (bs s) := fun s hs => by
        rw [hτ1, am_A_sA, if_pos ⟨rfl, rfl⟩, hF1 s hs, C s hs, cvw]; exact nI_bdec _ _
      refine kb_6_dropTests_76 (hC := sp_6_addCover W1 o1 1) (k := fun r' τ2 hr' => ?_)
      obtain ⟨rfl, F2, hτ2, hF2⟩ := hr'
      have W2 : am_Wo τ2 N K T tb fl nx := by rw [hτ2]; exact (am_On.rf.sA 7 F2).wo (by decide) W1
      have C2 : sh_Cv τ2 N tb r (am_uL R k (a ++ b)) (fun _ => false) := fun s hs => by
        rw [hτ2, am_A_sA, if_pos ⟨rfl, rfl⟩, hF2 s hs, f1 s hs, cvw]; exact nI_binc _ _
      have Dn : sh_D σ τ2 r R k a (c :: b) := by rw [hτ2, hτ1]; exact (D.s7 F1).s7 F2
      refine kb_6_dropTests_85 (hC := sp_6_proves W2 (C2.held hr)) (k := fun r' τ3 hr' => ?_)
      obtain ⟨rfl, rfl⟩ := hr'
      have ep : rs_pv N K fl nx (fun s => rs_in (am_uL R k (a ++ b)) (fun _ => false) r (tb s)) = pv (a ++ b) := by rw [hpv]; rfl
      rw [ep]
      obtain ⟨E1, E2, E3, E4, E5, E6, E7, E8⟩ := id Dn
      rw [hlen] at E6
      have hsh' : sh_row pv a (c :: b) = if pv (a ++ b) = true then sh_row pv a b else sh_row pv (a ++ [c]) b := rfl
      have ei : nI (L - (b.length + 1)) + 1 = nI (L - b.length) := by rw [nI_1, show L - (b.length + 1) + 1 = L - b.length by omega]
      refine kb_6_dropTests_89 (kt := fun z => ?_) (kf := fun z => ?_)
      · rw [am_bI_0] at z
        rw [if_neg (by rw [z]; decide)] at hsh'
        refine kb_6_dropTests_111 (hC := sp_6_addCover W2 o1 (-1)) (k := fun r' τ4 hr' => ?_)
        obtain ⟨rfl, F3, hτ4, hF3⟩ := hr'
        have W4 : am_Wo τ4 N K T tb fl nx := by rw [hτ4]; exact (am_On.rf.sA 7 F3).wo (by decide) W2
        have f3 : ∀ s, s < N → am_A τ4 14 7 s = nI (bs s) := fun s hs => by
          rw [hτ4, am_A_sA, if_pos ⟨rfl, rfl⟩, hF3 s hs, C2 s hs, cvw]; exact nI_bdec _ _
        have D4' : sh_D σ τ4 r R k a (c :: b) := by rw [hτ4]; exact Dn.s7 F3
        have eM4 : am_A τ4 14 5 (nI k).toNatClampNeg = rw_m rw_a (a ++ c :: b) := by rw [ck]; exact D4'.2.2.2.2.2.2.1
        have eG4 : am_A τ4 14 6 (nI k).toNatClampNeg = rw_m rw_g (a ++ c :: b) := by rw [ck]; exact D4'.2.2.2.2.2.2.2
        refine kb_6_dropTests_120 (hi0 := vk) (hi1 := vk) (hC := by rw [eM4, eG4]; exact sp_6_addCover W4 hk1 1) (k := fun r' τ5 hr' => ?_)
        obtain ⟨rfl, F4, hτ5, hF4⟩ := hr'
        have C5 : sh_Cv τ5 N tb r (am_uL R k (a ++ c :: b)) (fun _ => false) := fun s hs => by
          rw [hτ5, am_A_sA, if_pos ⟨rfl, rfl⟩, hF4 s hs, f3 s hs, cvw]; exact nI_binc _ _
        have D5' : sh_D σ τ5 r R k a (c :: b) := by rw [hτ5]; exact D4'.s7 F4
        have ix2 : nI k * 16 + nI a.length = nI (16 * k + a.length) := by rw [show (16 : Int32) = nI 16 from rfl, nI_mul, nI_add, Nat.mul_comm]
        refine kb_6_dropTests_137 (hi0 := by rw [ix2]; exact vp_in_nI (by omega) (by omega)) (k := kb_6_dropTests_153 (k := ?_))
        rw [ix2, nI_clamp (show 16 * k + a.length < 2 ^ 31 by omega), ei, nI_1]
        obtain ⟨G1, G2, G3, G4, G5, G6, G7, G8⟩ := D5'
        rw [hlen] at G6
        have e : ∀ q, q ≠ 4 → am_A (am_sA τ5 14 4 (upd (am_A τ5 14 4) (16 * k + a.length) (nI c))) 14 q = am_A τ5 14 q := fun q hq => by rw [am_A_sA, if_neg (fun z => hq z.1)]
        have e4 : am_A (am_sA τ5 14 4 (upd (am_A τ5 14 4) (16 * k + a.length) (nI c))) 14 4 = upd (am_A τ5 14 4) (16 * k + a.length) (nI c) := by rw [am_A_sA, if_pos ⟨rfl, rfl⟩]
        have las : (a ++ [c]).length = a.length + 1 := by simp
        have apc : (a ++ [c]) ++ b = a ++ c :: b := by rw [List.append_assoc]; rfl
        have next := ih (a ++ [c]) (am_sA τ5 14 4 (upd (am_A τ5 14 4) (16 * k + a.length) (nI c))) (by rw [apc]; exact hk1) (by rw [las]; omega) ⟨G1.sA 4 _, G2, by rw [e 3 (by decide)]; exact G3, fun k' g1 g2 => ?_, fun z hz => ?_, fun z hz => ?_, by rw [e 5 (by decide), apc]; exact G7, by rw [e 6 (by decide), apc]; exact G8⟩ (fun s hs => by rw [e 7 (by decide), apc]; exact C5 s hs) (by rw [hsh, hsh']) (some (.int (nI c))) (some (.int (rw_m rw_a (a ++ b)))) (some (.int (rw_m rw_g (a ++ b))))
        · rw [las] at next; exact next
        · unfold sh_Rw
          rw [e 3 (by decide), e4, e 5 (by decide), e 6 (by decide)]
          obtain ⟨h1, h2, h3, h4⟩ := G4 k' g1 g2
          refine ⟨h1, fun i hi => ?_, h3, h4⟩
          have := (hok k').2
          rw [upd_n (by omega)]; exact h2 i hi
        · rw [las] at hz
          rw [e4]
          by_cases c2 : z = a.length
          · rw [c2, upd_s, rl_e_mid]
          · rw [upd_n (by omega), rl_e_app (by omega)]; exact G5 z (by omega)
        · rw [e4, ← hL, upd_n (by omega)]
          have := G6 (z + 1) (by omega)
          rw [rl_e_cons, ← hL] at this
          rw [← this]
          congr 1
          omega
      · rw [am_bI_0] at z
        rw [if_pos (by simpa using z)] at hsh'
        refine kb_6_dropTests_92 (hi0 := vk) (hi1 := vk) (k := kb_6_dropTests_153 (k := ?_))
        rw [ck, ei]
        refine ih a _ o1 (by omega) ⟨(E1.sA 5 _).sA 6 _, E2, by rw [am_A_sA, if_neg (by simp), am_A_sA, if_neg (by simp)]; exact E3, fun k' g1 g2 => ?_, fun z hz => ?_, fun z hz => ?_, ?_, ?_⟩ (fun s hs => ?_) (by rw [hsh, hsh']) _ _ _
        · unfold sh_Rw
          obtain ⟨h1, h2, h3, h4⟩ := E4 k' g1 g2
          refine ⟨?_, fun i hi => ?_, ?_, ?_⟩
          · rw [am_A_sA, if_neg (by simp), am_A_sA, if_neg (by simp)]; exact h1
          · rw [am_A_sA, if_neg (by simp), am_A_sA, if_neg (by simp)]; exact h2 i hi
          · rw [am_A_sA, if_neg (by simp), am_A_sA, if_pos ⟨rfl, rfl⟩, upd_n g2]; exact h3
          · rw [am_A_sA, if_pos ⟨rfl, rfl⟩, upd_n g2]; exact h4
        · rw [am_A_sA, if_neg (by simp), am_A_sA, if_neg (by simp)]; exact E5 z hz
        · rw [am_A_sA, if_neg (by simp), am_A_sA, if_neg (by simp), ← hL]
          have := E6 (z + 1) (by omega)
          rw [rl_e_cons, ← hL] at this
          rw [← this]
          congr 1
          omega
        · rw [am_A_sA, if_neg (by simp), am_A_sA, if_pos ⟨rfl, rfl⟩, upd_s]
        · rw [am_A_sA, if_pos ⟨rfl, rfl⟩, upd_s]
        · rw [am_A_sA, if_neg (by simp), am_A_sA, if_neg (by simp)]; exact C2 s hs
  refine am_enter rfl (by simp [Value.category]) (Nat.le_of_ble_eq_true rfl) (kb_6_dropTests_0 (k := ?_))
  obtain ⟨r1, r2, r3, r4⟩ := hR k hk
  have := loop (R k) [] σ (hok k).1 (by rw [hL]; simp) ⟨am_On.rf, fun _ => rfl, rfl, fun k' a1 _ => hR k' a1, fun z hz => absurd hz (Nat.not_lt_zero z), fun z hz => ?_, r3, r4⟩ (fun s hs => ?_) rfl none none none
  · rw [← hL, Nat.sub_self] at this
    rw [show ([] : List Nat).length = 0 from rfl, nI_0] at this
    exact this
  · rw [Nat.sub_self, Nat.zero_add]; exact r2 z hz
  · have eR : am_uL R k ([] ++ R k) = R := by
      funext i; unfold am_uL
      by_cases c : i = k
      · rw [if_pos c, c]; rfl
      · rw [if_neg c]
    rw [eR]
    exact hC s hs
end SHD
