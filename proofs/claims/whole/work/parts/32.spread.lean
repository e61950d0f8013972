/-! Samples.spread: the least closed set -/
theorem am_cn_or {g S : Nat → Bool} {i n : Nat} (hi : i < n) (h : g i = false) (hS : S i = false) : am_cn (fun j => (j == i || g j) && !S j) n = am_cn (fun j => g j && !S j) n + 1 := by
  refine am_cn_add (f := fun j => g j && !S j) (f' := fun j => (j == i || g j) && !S j) hi ?_ ?_ ?_
  · show (g i && !S i) = false
    rw [h]; rfl
  · show ((i == i || g i) && !S i) = true
    rw [hS]; simp
  · intro j hj
    show ((j == i || g j) && !S j) = (g j && !S j)
    have e : (j == i) = false := by simpa using hj
    rw [e]; rfl
section SPREAD
variable {d o P q : Nat} {w x4 : Int32} {fh fn ft : Nat} {a b : Nat → Nat} {Q : Option Value → am_St → Prop}
/-- the state within spread: labels, queue -/
abbrev sp_St (σ : am_St) (o : Nat) (w : Int32) (g : Nat → Bool) (qf : Nat → Int32) : am_St := am_sA (am_sA σ 5 1 (am_or w g (am_A σ 5 1))) o 11 qf
theorem sp_St_A (σ : am_St) (o : Nat) (w : Int32) (g : Nat → Bool) (qf : Nat → Int32) (o' k' : Nat) (h1 : ¬ (k' = 11 ∧ o' = o)) (h2 : ¬ (k' = 1 ∧ o' = 5)) : am_A (sp_St σ o w g qf) o' k' = am_A σ o' k' := by
  unfold sp_St; rw [am_A_sA, if_neg h1, am_A_sA, if_neg h2]
theorem sp_St_L (σ : am_St) (o : Nat) (w : Int32) (g : Nat → Bool) (qf : Nat → Int32) : am_A (sp_St σ o w g qf) 5 1 = am_or w g (am_A σ 5 1) := by
  unfold sp_St; rw [am_A_sA, if_neg (by simp), am_A_sA, if_pos ⟨rfl, rfl⟩]
theorem sp_St_q (σ : am_St) (o : Nat) (w : Int32) (g : Nat → Bool) (qf : Nat → Int32) : am_A (sp_St σ o w g qf) o 11 = qf := by
  unfold sp_St; rw [am_A_sA, if_pos ⟨rfl, rfl⟩]
theorem sp_St_I (σ : am_St) (o : Nat) (w : Int32) (g : Nat → Bool) (qf : Nat → Int32) (o' k' : Nat) : am_I (sp_St σ o w g qf) o' k' = am_I σ o' k' := rfl
/-- what holds between two points of the queue: S before, g now, hd taken, tl laid -/
def sp_Inv (P q : Nat) (a b : Nat → Nat) (S : Nat → Bool) (pt : Nat) (g : Nat → Bool) (qf : Nat → Int32) (hd tl : Nat) : Prop :=
  (∀ i, S i = true → g i = true) ∧ g pt = true ∧ (∀ i, P ≤ i → g i = false) ∧ hd ≤ tl ∧ tl = am_cn (fun i => g i && !S i) P ∧ (∀ j, j < tl → ∃ i, i < P ∧ qf j = nI i ∧ g i = true) ∧
  (∀ i, g i = true → S i = false → ∃ j, j < tl ∧ qf j = nI i) ∧
  (∀ j i, j < hd → qf j = nI i → i < P → ∀ k, k < q → a k = i → g (b k) = true) ∧
  ∀ h : Nat → Bool, (∀ i, S i = true → h i = true) → h pt = true → am_Cl q a b h → ∀ i, g i = true → h i = true
theorem sp_inner (ho : am_k false o = 5) (hw : w = 1 ∨ w = 2) (hP : P ≤ 200) (hq : q ≤ 300) (σ : am_St) (hL : ∀ i, i < P → am_A σ 5 1 i = 0 ∨ am_A σ 5 1 i = 1 ∨ am_A σ 5 1 i = 2 ∨ am_A σ 5 1 i = 3)
    (hft : ft = 4 ∨ ft = 5) (hfn : fn = 8 ∨ fn = 10) (hn : ∀ k, k < q → am_A σ o fn k = am_lo a (a k) k) (ht : ∀ k, k < q → am_A σ o ft k = nI (b k)) (hab : ∀ k, k < q → a k < P ∧ b k < P)
    (S : Nat → Bool) (hS : ∀ i, i < P → S i = am_bt w (am_A σ 5 1 i)) (hS2 : ∀ i, P ≤ i → S i = false) (pt : Nat)
    (b107 : ∀ (τ : am_St) (x2 : Int32) (x5 x6 x7 x8 : Int32) (a9 : Option Value), vp_in x7 300 → am_T false ya_5_spread d Q 129 [some (.ref (am_oid o)), some (.ref (am_aid 5 1)), some (.int x2), some (.int w), some (.int x4), some (.int x5), some (.int x6), some (.int x7), some (.int x8), a9] [.int (am_A τ o ft x7.toNatClampNeg)] τ → am_T false ya_5_spread d Q 107 [some (.ref (am_oid o)), some (.ref (am_aid 5 1)), some (.int x2), some (.int w), some (.int x4), some (.int x5), some (.int x6), some (.int x7), some (.int x8), a9] [] τ)
    (b160 : ∀ (τ : am_St) (x2 : Int32) (x5 x6 x7 x8 x9 : Int32), vp_in x7 300 → am_T false ya_5_spread d Q 182 [some (.ref (am_oid o)), some (.ref (am_aid 5 1)), some (.int x2), some (.int w), some (.int x4), some (.int x5), some (.int x6), some (.int x7), some (.int x8), some (.int x9)] [.int (am_A τ o fn x7.toNatClampNeg)] τ → am_T false ya_5_spread d Q 160 [some (.ref (am_oid o)), some (.ref (am_aid 5 1)), some (.int x2), some (.int w), some (.int x4), some (.int x5), some (.int x6), some (.int x7), some (.int x8), some (.int x9)] [] τ)
    (x2 : Int32) (hd p : Nat) (hp : p < P) (qf0 : Nat → Int32) (hqp : qf0 hd = nI p)
    (kx : ∀ (g : Nat → Bool) (qf : Nat → Int32) (tl : Nat) (x7 x8 : Int32) (a9 : Option Value), sp_Inv P q a b S pt g qf hd tl → qf hd = nI p → (∀ k, k < q → a k = p → g (b k) = true) → hd < tl → am_T false ya_5_spread d Q 190 [some (.ref (am_oid o)), some (.ref (am_aid 5 1)), some (.int x2), some (.int w), some (.int x4), some (.int (nI tl)), some (.int (nI hd)), some (.int x7), some (.int x8), a9] [] (sp_St σ o w g qf)) :
    ∀ (n lf : Nat), n ≤ q → n ≤ lf → lf ≤ 300 → ∀ (g : Nat → Bool) (qf : Nat → Int32) (tl : Nat) (a9 : Option Value), sp_Inv P q a b S pt g qf hd tl → qf hd = nI p → hd < tl → (∀ k, n ≤ k → k < q → a k = p → g (b k) = true) → am_T false ya_5_spread d Q 97 [some (.ref (am_oid o)), some (.ref (am_aid 5 1)), some (.int x2), some (.int w), some (.int x4), some (.int (nI tl)), some (.int (nI hd)), some (.int (am_lo a p n)), some (.int (nI lf)), a9] [] (sp_St σ o w g qf) := by
  intro n
  induction n using Nat.strongRecOn with
  | ind n ih =>
    intro lf hnq hnl hl3 g qf tl a9 hI hqd hdt hdone
    rcases am_lo_cases a p n with ⟨h1, h2⟩ | ⟨k, h1, h2, h3, h4⟩
    · rw [h1]
      refine kb_5_spread_97 (kt := fun _ => ?_) (kf := fun h => absurd am_neg1 h)
      refine kx g qf tl _ _ _ hI hqd (fun k hk hak => ?_) hdt
      rcases Nat.lt_or_ge k n with c | c
      · exact absurd hak (h2 k c)
      · exact hdone k c hk hak
    · rw [h2]
      have hk3 : k < q := by omega
      have vk : vp_in (nI k) 300 := vp_in_nI (by omega) (by omega)
      have hbk := (hab k hk3).2
      refine kb_5_spread_97 (kt := fun h => absurd h (nI_pos (by omega))) (kf := fun _ => ?_)
      refine kb_5_spread_102 (kt := fun h => absurd h (nI_nle (by omega) (by omega))) (kf := fun _ => ?_)
      refine b107 _ _ _ _ _ _ _ vk ?_
      have eT : am_A (sp_St σ o w g qf) o ft k = nI (b k) := by rw [sp_St_A _ _ _ _ _ _ _ (by omega) (by omega)]; exact ht k hk3
      rw [nI_clamp (by omega), eT]
      have hSg : ∀ i, i < P → am_bt w (am_A σ 5 1 i) = true → g i = true := fun i hi h => hI.1 i (by rw [hS i hi]; exact h)
      have hbt : am_bt w (am_or w g (am_A σ 5 1) (b k)) = g (b k) := am_bt_or hw (hL _ hbk) (hSg _ hbk)
      -- go on behind the label
      have go : ∀ (g' : Nat → Bool) (qf' : Nat → Int32) (tl' : Nat), sp_Inv P q a b S pt g' qf' hd tl' → qf' hd = nI p → hd < tl' → (∀ i, g i = true → g' i = true) → g' (b k) = true → am_T false ya_5_spread d Q 160 [some (.ref (am_oid o)), some (.ref (am_aid 5 1)), some (.int x2), some (.int w), some (.int x4), some (.int (nI tl')), some (.int (nI hd)), some (.int (nI k)), some (.int (nI lf)), some (.int (nI (b k)))] [] (sp_St σ o w g' qf') := by
        intro g' qf' tl' hI' hq' hdt' hmono hgb
        refine b160 _ _ _ _ _ _ _ vk ?_
        have eN : am_A (sp_St σ o w g' qf') o fn k = am_lo a p k := by rw [sp_St_A _ _ _ _ _ _ _ (by omega) (by omega), hn k hk3, h3]
        rw [nI_clamp (by omega), eN]
        refine kb_5_spread_182 (k := ?_)
        have e1 : nI lf + -1 = nI (lf - 1) := by
          obtain ⟨m, rfl⟩ : ∃ m, lf = m + 1 := ⟨lf - 1, by omega⟩
          exact nI_dec m
        rw [e1]
        refine ih k h1 (lf - 1) (by omega) (by omega) (by omega) g' qf' tl' _ hI' hq' hdt' (fun k' c1 c2 c3 => ?_)
        rcases Nat.lt_or_ge k k' with c | c
        · rcases Nat.lt_or_ge k' n with c4 | c4
          · exact absurd c3 (h4 k' c c4)
          · exact hmono _ (hdone k' c4 c2 c3)
        · have : k' = k := by omega
          rw [this]; exact hgb
      refine kb_5_spread_129 (hi1 := vp_in_nI (by omega) (by omega)) (kt := fun h => ?_) (kf := fun h => ?_)
      · rw [nI_clamp (by omega), sp_St_L, am_bt_0, hbt] at h
        exact go g qf tl hI hqd hdt (fun _ h => h) (by simpa using h)
      · rw [nI_clamp (by omega), sp_St_L, am_bt_0, hbt] at h
        have hSb : S (b k) = false := by
          cases e : S (b k)
          · rfl
          · rw [hI.1 _ e] at h; exact h
        obtain ⟨i1, i2, i3, i4, i5, i6, i7, i8, i9⟩ := hI
        have hg' : am_cn (fun i => (i == b k || g i) && !S i) P = am_cn (fun i => g i && !S i) P + 1 := am_cn_or hbk h hSb
        have htl : tl + 1 ≤ P := by rw [i5, ← hg']; exact am_cn_le _ _
        refine kb_5_spread_140 (hi0 := vp_in_nI (by omega) (by omega)) (hi1 := vp_in_nI (by omega) (by omega)) (hi2 := vp_in_nI (by omega) (by omega)) (k := ?_)
        rw [nI_1, nI_clamp (show b k < 2 ^ 31 by omega), nI_clamp (show tl < 2 ^ 31 by omega)]
        have eS : am_sA (am_sA (sp_St σ o w g qf) 5 1 (upd (am_A (sp_St σ o w g qf) 5 1) (b k) (am_A (sp_St σ o w g qf) 5 1 (b k) ||| w))) o 11 (upd (am_A (am_sA (sp_St σ o w g qf) 5 1 (upd (am_A (sp_St σ o w g qf) 5 1) (b k) (am_A (sp_St σ o w g qf) 5 1 (b k) ||| w))) o 11) tl (nI (b k))) = sp_St σ o w (fun j => j == b k || g j) (upd qf tl (nI (b k))) := by
          have e0 : ∀ F : Nat → Int32, am_A (am_sA (sp_St σ o w g qf) 5 1 F) o 11 = qf := fun F => by rw [am_A_sA, if_neg (by simp)]; exact sp_St_q _ _ _ _ _
          rw [e0, sp_St_L, am_or_add _ h]
          unfold sp_St
          rw [am_sA_comm _ o 11 5 1 _ _ (by simp), am_sA_sA, am_sA_sA]
        rw [eS]
        refine go _ _ (tl + 1) ⟨fun i hi => by simp [i1 i hi], by simp [i2], fun i hi => ?_, by omega, by rw [hg', ← i5], fun j hj => ?_, fun i hi hs => ?_, fun j i hj hji hi k' hk' hak => ?_, fun h1' h2' h3' h4' i hi => ?_⟩ ?_ (by omega) (fun i hi => by simp [hi]) (by simp)
        · have : i ≠ b k := by omega
          simp [this, i3 i hi]
        · by_cases e : j = tl
          · exact ⟨b k, hbk, by simp [upd, e], by simp⟩
          · obtain ⟨i, e1, e2, e3⟩ := i6 j (by omega)
            exact ⟨i, e1, by simp [upd, e, e2], by simp [e3]⟩
        · by_cases e : i = b k
          · exact ⟨tl, by omega, by simp [upd, e]⟩
          · have hgi : g i = true := by simpa [e] using hi
            obtain ⟨j, e1, e2⟩ := i7 i hgi hs
            exact ⟨j, by omega, by simp [upd, show j ≠ tl by omega, e2]⟩
        · have e : upd qf tl (nI (b k)) j = qf j := by simp [upd, show j ≠ tl by omega]
          rw [e] at hji
          simp [i8 j i hj hji hi k' hk' hak]
        · by_cases e : i = b k
          · subst e
            have hp' : h1' p = true := by
              obtain ⟨i, e1, e2, e3⟩ := i6 hd hdt
              have : i = p := nI_inj (by omega) (by omega) (e2.symm.trans hqd)
              exact i9 h1' h2' h3' h4' p (this ▸ e3)
            exact h4' k hk3 (by rw [h3]; exact hp')
          · exact i9 h1' h2' h3' h4' i (by simpa [e] using hi)
        · simp [upd, show hd ≠ tl by omega, hqd]
end SPREAD
