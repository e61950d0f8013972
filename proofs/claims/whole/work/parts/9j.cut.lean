/-! the class cuts a text into its tokens -/
section CUT
variable {d n : Nat} {tc : Nat → Nat}
/-- a token that is done -/
def ct_r (τ : am_St) (tc : Nat → Nat) (n s : Nat) : Prop := am_A τ 3 1 s = nI (tk_s tc n s).1 ∧ am_A τ 3 2 s = nI (tk_s tc n s).2.1 ∧ am_A τ 3 3 s = nI (tk_s tc n s).2.2.2 ∧ am_A τ 3 4 s = -1 ∧ (tk_s tc n s).1 ≠ 0
def ct_C (τ : am_St) (tc : Nat → Nat) (n t a : Nat) : Prop := am_I τ 3 0 = nI t ∧ t ≤ a ∧ (∀ s, s < t → ct_r τ tc n s) ∧ tk_s tc n t = tk_at tc n a
/-- a token that may go on -/
def ct_O (τ : am_St) (tc : Nat → Nat) (n u a b : Nat) (p : Nat → Bool) : Prop := am_I τ 3 0 = nI (u + 1) ∧ b < a ∧ u ≤ b ∧ (∀ s, s < u → ct_r τ tc n s) ∧ tk_s tc n u = tk_at1 tc n b ∧ (∀ i, b ≤ i → i < a → p (tc i) = true) ∧ am_A τ 3 2 u = nI b ∧ am_A τ 3 4 u = -1
def ct_W (τ : am_St) (tc : Nat → Nat) (n a : Nat) : Prop := ∃ u b, ct_O τ tc n u a b tk_lt ∧ am_A τ 3 1 u = nI (if a - b ≤ 6 then 1 else 3) ∧ am_A τ 3 3 u = nI (tk_w tc b (min 6 (a - b)))
def ct_D (τ : am_St) (tc : Nat → Nat) (n a : Nat) : Prop := ∃ u b, ct_O τ tc n u a b tk_dg ∧ am_A τ 3 1 u = 2 ∧ am_A τ 3 3 u = nI (tk_d tc b (a - b))
theorem ct_r.cg {σ τ : am_St} {s : Nat} (h : ct_r σ tc n s) (h1 : am_A τ 3 1 s = am_A σ 3 1 s) (h2 : am_A τ 3 2 s = am_A σ 3 2 s) (h3 : am_A τ 3 3 s = am_A σ 3 3 s) (h4 : am_A τ 3 4 s = am_A σ 3 4 s) : ct_r τ tc n s := ⟨h1.trans h.1, h2.trans h.2.1, h3.trans h.2.2.1, h4.trans h.2.2.2.1, h.2.2.2.2⟩
theorem tk_lt_dg {c : Nat} (h : tk_lt c = true) : tk_dg c = false := by
  unfold tk_lt at h; unfold tk_dg
  have := of_decide_eq_true h
  exact decide_eq_false (by omega)
theorem ct_W.close {τ : am_St} {a : Nat} (h : ct_W τ tc n a) (ha : a ≤ n) (hs : ¬ (a < n ∧ tk_lt (tc a) = true)) : ∃ t, ct_C τ tc n t a := by
  obtain ⟨u, b, ⟨h0, hb, hu, hr, hk, hp, h2, h4⟩, h1, h3⟩ := h
  have e := tk_e_run (n := n) hs ha (a - b) b (by omega) hp
  have eb := hp b (Nat.le_refl _) hb
  have et : tk_at1 tc n b = (if a - b ≤ 6 then 1 else 3, b, a, tk_w tc b (min 6 (a - b))) := by
    unfold tk_at1
    rw [if_pos eb, e]
  rw [et] at hk
  refine ⟨u + 1, h0, by omega, fun s hs => ?_, ?_⟩
  · rcases Nat.lt_or_ge s u with q | q
    · exact hr s q
    · have : s = u := by omega
      subst this
      unfold ct_r
      rw [hk]
      exact ⟨h1, h2, h3, h4, by show (if a - b ≤ 6 then 1 else 3) ≠ 0; split <;> decide⟩
  · show tk_at tc n (tk_s tc n u).2.2.1 = _
    rw [hk]
theorem ct_D.close {τ : am_St} {a : Nat} (h : ct_D τ tc n a) (ha : a ≤ n) (hs : ¬ (a < n ∧ tk_dg (tc a) = true)) : ∃ t, ct_C τ tc n t a := by
  obtain ⟨u, b, ⟨h0, hb, hu, hr, hk, hp, h2, h4⟩, h1, h3⟩ := h
  have e := tk_e_run (n := n) hs ha (a - b) b (by omega) hp
  have eb := hp b (Nat.le_refl _) hb
  have el : ¬ tk_lt (tc b) = true := fun z => by rw [tk_lt_dg z] at eb; exact absurd eb (by decide)
  have et : tk_at1 tc n b = (2, b, a, tk_d tc b (a - b)) := by
    unfold tk_at1
    rw [if_neg el, if_pos eb, e]
  rw [et] at hk
  refine ⟨u + 1, h0, by omega, fun s hs => ?_, ?_⟩
  · rcases Nat.lt_or_ge s u with q | q
    · exact hr s q
    · have : s = u := by omega
      subst this
      unfold ct_r
      rw [hk]
      exact ⟨h1, h2, h3, h4, by show (2 : Nat) ≠ 0; decide⟩
  · show tk_at tc n (tk_s tc n u).2.2.1 = _
    rw [hk]
/-- what holds as the sign at a is looked at, with the kind of the one before it -/
def ct_I (τ : am_St) (tc : Nat → Nat) (n a : Nat) (kb : Nat) : Prop := (kb = 1 ∧ ct_W τ tc n a) ∨ (kb = 2 ∧ ct_D τ tc n a) ∨ (kb ≠ 1 ∧ kb ≠ 2 ∧ ∃ t, ct_C τ tc n t a)
theorem tk_k_lt {c : Nat} (h : tk_lt c = true) : tk_k c = 1 := by unfold tk_k; rw [if_pos h]
theorem tk_k_1 {c : Nat} (h : tk_k c = 1) : tk_lt c = true := by
  cases e : tk_lt c with
  | true => rfl
  | false =>
    unfold tk_k at h
    rw [e, if_neg (by decide)] at h
    split at h
    · omega
    · split at h
      · omega
      · split at h
        · rename_i q
          unfold tk_mk at q
          have := of_decide_eq_true q
          omega
        · omega
theorem tk_k_2 {c : Nat} (h : tk_k c = 2) : tk_lt c = false ∧ tk_dg c = true := by
  cases e : tk_lt c with
  | true => rw [tk_k_lt e] at h; omega
  | false =>
    refine ⟨rfl, ?_⟩
    cases e2 : tk_dg c with
    | true => rfl
    | false =>
      unfold tk_k at h
      rw [e, e2, if_neg (by decide), if_neg (by decide)] at h
      split at h
      · omega
      · split at h
        · rename_i q
          unfold tk_mk at q
          have := of_decide_eq_true q
          omega
        · omega
theorem tk_k_o {c : Nat} (h1 : tk_k c ≠ 1) (h2 : tk_k c ≠ 2) : tk_lt c = false ∧ tk_dg c = false ∧ (tk_k c = 4 → tk_bl c = true) ∧ (tk_k c ≠ 4 → tk_bl c = false) ∧ tk_k c ≠ 0 ∧ tk_k c < 256 := by
  have e1 : tk_lt c = false := by
    cases e : tk_lt c with
    | true => exact absurd (tk_k_lt e) h1
    | false => rfl
  have e2 : tk_dg c = false := by
    cases e : tk_dg c with
    | true => exact absurd (by unfold tk_k; rw [e1, if_neg (by decide), if_pos e]) h2
    | false => rfl
  have e3 : tk_k c = if tk_bl c = true then 4 else if tk_mk c = true then c else 3 := by unfold tk_k; rw [e1, e2]; rfl
  refine ⟨e1, e2, ?_, ?_, ?_, ?_⟩
  · intro z
    cases e : tk_bl c with
    | true => rfl
    | false =>
      rw [e3, e, if_neg (by decide)] at z
      split at z
      · rename_i q
        unfold tk_mk at q
        have := of_decide_eq_true q
        omega
      · omega
  · intro z
    cases e : tk_bl c with
    | false => rfl
    | true => exact absurd (by rw [e3, if_pos e]) z
  · rw [e3]
    split
    · decide
    · split
      · rename_i q
        unfold tk_mk at q
        have := of_decide_eq_true q
        omega
      · decide
  · rw [e3]
    split
    · decide
    · split
      · rename_i q
        unfold tk_mk at q
        have := of_decide_eq_true q
        omega
      · decide
theorem ct_I.close {τ : am_St} {a kb : Nat} (h : ct_I τ tc n a kb) (ha : a ≤ n) (hk : a < n → tk_k (tc a) ≠ kb ∨ (tk_k (tc a) ≠ 1 ∧ tk_k (tc a) ≠ 2)) : ∃ t, ct_C τ tc n t a := by
  rcases h with ⟨e, h⟩ | ⟨e, h⟩ | ⟨-, -, h⟩
  · refine h.close ha (fun z => ?_)
    have := tk_k_lt z.2
    rcases hk z.1 with q | q <;> omega
  · refine h.close ha (fun z => ?_)
    have h1 : tk_lt (tc a) = false := by
      cases e : tk_lt (tc a) with
      | true => rw [tk_lt_dg e] at z; exact absurd z.2 (by decide)
      | false => rfl
    have : tk_k (tc a) = 2 := by unfold tk_k; rw [h1, if_neg (by decide), if_pos z.2]
    rcases hk z.1 with q | q <;> omega
  · exact h
/-- the tokens of a text lie in the class's rows; m stands before its end -/
def ck_t (τ : am_St) (tc : Nat → Nat) (n m : Nat) : Prop := am_I τ 3 0 = nI (m + 1) ∧ m ≤ n ∧ n ≤ 900 ∧ (∀ t, t < m → (tk_s tc n t).1 ≠ 0) ∧ tk_s tc n m = (0, n, n, 0) ∧ ∀ t, t ≤ m → am_A τ 3 1 t = nI (tk_s tc n t).1 ∧ am_A τ 3 2 t = nI (tk_s tc n t).2.1 ∧ am_A τ 3 3 t = nI (tk_s tc n t).2.2.2
theorem sp_7_cut {σ : am_St} (hn : n ≤ 900) (hc : ∀ i, tc i < 256) (hp : ∀ i, i < n → am_A σ 0 0 i &&& 255 = nI (tc i)) : am_C false ya_7_cut (d + 2) [.ref (am_oid 3), .ref (am_aid 0 0), .int (nI n)] σ (fun r τ => r = none ∧ am_On 3 σ τ ∧ ∃ m, ck_t τ tc n m ∧ ∀ t, t ≤ m → am_A τ 3 4 t = -1) := by
  have e900 : (if (900 : Int32) < nI n then 900 else nI n) = nI n := if_neg (by rw [show (900 : Int32) = nI 900 from rfl]; exact nI_nlt hn (by omega))
  have loop : ∀ (j a kb : Nat) (τ : am_St) (a6 a7 a8 : Option Value), a + j = n → am_On 3 σ τ → ct_I τ tc n a kb → kb < 256 → am_T false ya_7_cut (d + 2) (fun r τ => r = none ∧ am_On 3 σ τ ∧ ∃ m, ck_t τ tc n m ∧ ∀ t, t ≤ m → am_A τ 3 4 t = -1) 19 [some (.ref (am_oid 3)), some (.ref (am_aid 0 0)), some (.int (nI n)), some (.int (nI n)), some (.int (nI kb)), some (.int (nI a)), a6, a7, a8] [] τ := by
    intro j
    induction j with
    | zero =>
      intro a kb τ a6 a7 a8 ha F hI _
      have : a = n := by omega
      subst this
      obtain ⟨t, c0, ct, cr, ck⟩ := hI.close (Nat.le_refl _) (fun z => absurd z (Nat.lt_irrefl _))
      refine kb_7_cut_19 (kf := fun z => absurd (nI_le (Nat.le_refl _) (by omega)) z) (kt := fun _ => ?_)
      refine kb_7_cut_121 (hC := sp_7_open c0 (by omega) 0 (nI a)) (k := fun r υ hr => ?_)
      obtain ⟨rfl, F2, i0, g1, g2, g3, g4⟩ := hr
      refine kb_7_cut_127 ⟨rfl, F.tr F2, t, ⟨i0, ct, hn, fun s hs => (cr s hs).2.2.2.2, by rw [ck, tk_at_end], fun s hs => ?_⟩, fun s hs => ?_⟩
      · by_cases q : s = t
        · subst q
          rw [ck, tk_at_end, g1, g2, g3, upd_s, upd_s, upd_s]
          exact ⟨rfl, rfl, rfl⟩
        · rw [g1, g2, g3, upd_n q, upd_n q, upd_n q]
          have := cr s (by omega)
          exact ⟨this.1, this.2.1, this.2.2.1⟩
      · by_cases q : s = t
        · rw [q, g4, upd_s]
        · rw [g4, upd_n q]; exact (cr s (by omega)).2.2.2.1
    | succ j ih =>
      intro a kb τ a6 a7 a8 ha F hI hkb
      have hca := hc a
      have et : am_A τ 0 0 (nI a).toNatClampNeg &&& 255 = nI (tc a) := by rw [nI_clamp (show a < 2 ^ 31 by omega), F.2.1 0 0 (by decide)]; exact hp a (by omega)
      have go : ∀ (υ : am_St) (a8 : Option Value), am_On 3 σ υ → ct_I υ tc n (a + 1) (tk_k (tc a)) → tk_k (tc a) < 256 → am_T false ya_7_cut (d + 2) (fun r τ => r = none ∧ am_On 3 σ τ ∧ ∃ m, ck_t τ tc n m ∧ ∀ t, t ≤ m → am_A τ 3 4 t = -1) 111 [some (.ref (am_oid 3)), some (.ref (am_aid 0 0)), some (.int (nI n)), some (.int (nI n)), some (.int (nI kb)), some (.int (nI a)), some (.int (nI (tc a))), some (.int (nI (tk_k (tc a)))), a8] [] υ := fun υ a8 F' hI' hk' => by
        refine kb_7_cut_111 (k := ?_)
        rw [nI_1]
        exact ih (a + 1) _ υ _ _ _ (by omega) F' hI' hk'
      refine kb_7_cut_19 (kt := fun z => absurd z (nI_ge (by omega) (by omega))) (kf := fun _ => ?_)
      refine kb_7_cut_25 (hkr1 := rfl) (hlr1 := by decide) (hfr1 := rfl) (hi0 := vp_in_nI (show a < 900 by omega) (by omega)) (hC := by rw [et]; exact sp_7_kindOf hca) (k := fun r υ hr => ?_)
      obtain ⟨rfl, rfl⟩ := hr
      rw [et]
      by_cases k1 : tk_k (tc a) = 1
      · have hl := tk_k_1 k1
        have hl2 := of_decide_eq_true (show decide (97 ≤ tc a ∧ tc a ≤ 122) = true from hl)
        rw [k1] at go ⊢
        refine kb_7_cut_40 (kf := fun z => absurd rfl z) (kt := fun _ => kb_7_cut_54 (k := kb_7_cut_59 (kt := fun z => absurd z (by decide)) (kf := fun _ => ?_)))
        by_cases kk : kb = 1
        · subst kk
          have hW : ct_W υ tc n a := by
            rcases hI with ⟨-, h⟩ | ⟨z, -⟩ | ⟨z, -⟩
            · exact h
            · exact absurd z (by decide)
            · exact absurd rfl z
          obtain ⟨u, b, ⟨h0, hb, hu, hr, hk, hp', h2, h4⟩, h1, h3⟩ := hW
          refine kb_7_cut_66 (kt := fun z => absurd rfl z) (kf := fun _ => ?_)
          refine kb_7_cut_73 (hC := sp_7_extend_w h0 (by omega) (by rw [h1]; split <;> decide) h3 h2 (Nat.le_of_lt hb) (by omega) hl2.1) (k := fun r ω hr => ?_)
          obtain ⟨rfl, hω⟩ := hr
          refine kb_7_cut_81 (k := go ω _ ?_ (Or.inl ⟨rfl, u, b, ?_⟩) (by decide))
          · rw [hω]; split
            · exact F.sA _ _
            · exact F.sA _ _
          have pp : ∀ i, b ≤ i → i < a + 1 → tk_lt (tc i) = true := fun i i1 i2 => by
            by_cases q : i = a
            · rw [q]; exact hl
            · exact hp' i i1 (by omega)
          by_cases q : a - b < 6
          · rw [if_pos q] at hω
            have A3 : am_A ω 3 3 = upd (am_A υ 3 3) u (nI (tk_w tc b (min 6 (a - b)) * 27 + (tc a - 96))) := by rw [hω, am_A_sA, if_pos ⟨rfl, rfl⟩]
            have Ao : ∀ k, k ≠ 3 → am_A ω 3 k = am_A υ 3 k := fun k hk => by rw [hω, am_A_sA, if_neg (fun z => hk z.1)]
            refine ⟨⟨by rw [hω]; exact h0, by omega, hu, fun s hs => ?_, hk, pp, by rw [Ao 2 (by decide)]; exact h2, by rw [Ao 4 (by decide)]; exact h4⟩, ?_, ?_⟩
            · exact (hr s hs).cg (by rw [Ao 1 (by decide)]) (by rw [Ao 2 (by decide)]) (by rw [A3, upd_n (by omega)]) (by rw [Ao 4 (by decide)])
            · rw [Ao 1 (by decide), h1, if_pos (by omega), if_pos (by omega)]
            · rw [A3, upd_s, Nat.min_eq_right (by omega), Nat.min_eq_right (by omega), show a + 1 - b = (a - b) + 1 by omega]
              show _ = nI (tk_w tc b (a - b) * 27 + (tc (b + (a - b)) - 96))
              rw [show b + (a - b) = a by omega]
          · rw [if_neg q] at hω
            have A1 : am_A ω 3 1 = upd (am_A υ 3 1) u 3 := by rw [hω, am_A_sA, if_pos ⟨rfl, rfl⟩]
            have Ao : ∀ k, k ≠ 1 → am_A ω 3 k = am_A υ 3 k := fun k hk => by rw [hω, am_A_sA, if_neg (fun z => hk z.1)]
            refine ⟨⟨by rw [hω]; exact h0, by omega, hu, fun s hs => ?_, hk, pp, by rw [Ao 2 (by decide)]; exact h2, by rw [Ao 4 (by decide)]; exact h4⟩, ?_, ?_⟩
            · exact (hr s hs).cg (by rw [A1, upd_n (by omega)]) (by rw [Ao 2 (by decide)]) (by rw [Ao 3 (by decide)]) (by rw [Ao 4 (by decide)])
            · rw [A1, upd_s, if_neg (by omega)]; rfl
            · rw [Ao 3 (by decide), h3, Nat.min_eq_left (by omega), Nat.min_eq_left (by omega)]
        · obtain ⟨t, c0, ct, cr, ck⟩ := hI.close (by omega) (fun _ => Or.inl (by omega))
          have hb : tk_bl (tc a) = false := by unfold tk_bl; exact decide_eq_false (by omega)
          rw [tk_at_nb (by omega) hb] at ck
          refine kb_7_cut_66 (kf := fun z => absurd (nI_inj (by omega) (by omega) (show nI 1 = nI kb from z)) (fun q => kk q.symm)) (kt := fun _ => ?_)
          refine kb_7_cut_84 (kt := fun z => absurd (show nI 1 = nI 4 from z) (by decide)) (kf := fun _ => ?_)
          refine kb_7_cut_90 (hC := sp_7_open c0 (by omega) (nI 1) (nI a)) (k := fun r ω hr => ?_)
          obtain ⟨rfl, F2, i0, g1, g2, g3, g4⟩ := hr
          refine kb_7_cut_98 (kt := fun z => absurd z (by decide)) (kf := fun _ => ?_)
          refine kb_7_cut_103 (hC := sp_7_extend_w (x := 0) (b := a) i0 (by omega) (by rw [g1, upd_s]; decide) (by rw [g3, upd_s]; rfl) (by rw [g2, upd_s]) (Nat.le_refl _) (by omega) hl2.1) (k := fun r ψ hr => ?_)
          obtain ⟨rfl, hψ⟩ := hr
          rw [if_pos (by omega)] at hψ
          have A3 : am_A ψ 3 3 = upd (am_A ω 3 3) t (nI (0 * 27 + (tc a - 96))) := by rw [hψ, am_A_sA, if_pos ⟨rfl, rfl⟩]
          have Ao : ∀ k, k ≠ 3 → am_A ψ 3 k = am_A ω 3 k := fun k hk => by rw [hψ, am_A_sA, if_neg (fun z => hk z.1)]
          refine go ψ _ (by rw [hψ]; exact (F.tr F2).sA _ _) (Or.inl ⟨rfl, t, a, ⟨by rw [hψ]; exact i0, by omega, ct, fun s hs => ?_, ck, fun i i1 i2 => by rw [show i = a by omega]; exact hl, by rw [Ao 2 (by decide), g2, upd_s], by rw [Ao 4 (by decide), g4, upd_s]⟩, ?_, ?_⟩) (by decide)
          · exact (cr s hs).cg (by rw [Ao 1 (by decide), g1, upd_n (by omega)]) (by rw [Ao 2 (by decide), g2, upd_n (by omega)]) (by rw [A3, upd_n (by omega), g3, upd_n (by omega)]) (by rw [Ao 4 (by decide), g4, upd_n (by omega)])
          · rw [Ao 1 (by decide), g1, upd_s, if_pos (by omega)]
          · rw [A3, upd_s, show a + 1 - a = 1 by omega]; rfl
      · by_cases k2 : tk_k (tc a) = 2
        · obtain ⟨hl0, hl⟩ := tk_k_2 k2
          have hl2 := of_decide_eq_true (show decide (48 ≤ tc a ∧ tc a ≤ 57) = true from hl)
          rw [k2] at go ⊢
          refine kb_7_cut_40 (kt := fun z => absurd z (by decide)) (kf := fun _ => kb_7_cut_48 (kt := fun z => absurd rfl z) (kf := fun _ => kb_7_cut_54 (k := kb_7_cut_59 (kt := fun z => absurd z (by decide)) (kf := fun _ => ?_))))
          by_cases kk : kb = 2
          · subst kk
            have hD : ct_D υ tc n a := by
              rcases hI with ⟨z, -⟩ | ⟨-, h⟩ | ⟨-, z, -⟩
              · exact absurd z (by decide)
              · exact h
              · exact absurd rfl z
            obtain ⟨u, b, ⟨h0, hb, hu, hr, hk, hp', h2, h4⟩, h1, h3⟩ := hD
            refine kb_7_cut_66 (kt := fun z => absurd rfl z) (kf := fun _ => ?_)
            refine kb_7_cut_73 (hC := sp_7_extend_d h0 (by omega) h1 h3 (tk_d_le b _) hl2.1 hca (nI a)) (k := fun r ω hr => ?_)
            obtain ⟨rfl, hω⟩ := hr
            have A3 : am_A ω 3 3 = upd (am_A υ 3 3) u (nI (min (tk_d tc b (a - b) * 10 + (tc a - 48)) 100)) := by rw [hω, am_A_sA, if_pos ⟨rfl, rfl⟩]
            have Ao : ∀ k, k ≠ 3 → am_A ω 3 k = am_A υ 3 k := fun k hk => by rw [hω, am_A_sA, if_neg (fun z => hk z.1)]
            refine kb_7_cut_81 (k := go ω _ (by rw [hω]; exact F.sA _ _) (Or.inr (Or.inl ⟨rfl, u, b, ⟨by rw [hω]; exact h0, by omega, hu, fun s hs => ?_, hk, fun i i1 i2 => ?_, by rw [Ao 2 (by decide)]; exact h2, by rw [Ao 4 (by decide)]; exact h4⟩, ?_, ?_⟩)) (by decide))
            · exact (hr s hs).cg (by rw [Ao 1 (by decide)]) (by rw [Ao 2 (by decide)]) (by rw [A3, upd_n (by omega)]) (by rw [Ao 4 (by decide)])
            · by_cases q : i = a
              · rw [q]; exact hl
              · exact hp' i i1 (by omega)
            · rw [Ao 1 (by decide)]; exact h1
            · rw [A3, upd_s, show a + 1 - b = (a - b) + 1 by omega]
              show _ = nI (min (tk_d tc b (a - b) * 10 + (tc (b + (a - b)) - 48)) 100)
              rw [show b + (a - b) = a by omega]
          · obtain ⟨t, c0, ct, cr, ck⟩ := hI.close (by omega) (fun _ => Or.inl (by omega))
            have hb : tk_bl (tc a) = false := by unfold tk_bl; exact decide_eq_false (by omega)
            rw [tk_at_nb (by omega) hb] at ck
            refine kb_7_cut_66 (kf := fun z => absurd (nI_inj (by omega) (by omega) (show nI 2 = nI kb from z)) (fun q => kk q.symm)) (kt := fun _ => ?_)
            refine kb_7_cut_84 (kt := fun z => absurd (show nI 2 = nI 4 from z) (by decide)) (kf := fun _ => ?_)
            refine kb_7_cut_90 (hC := sp_7_open c0 (by omega) (nI 2) (nI a)) (k := fun r ω hr => ?_)
            obtain ⟨rfl, F2, i0, g1, g2, g3, g4⟩ := hr
            refine kb_7_cut_98 (kt := fun z => absurd z (by decide)) (kf := fun _ => ?_)
            refine kb_7_cut_103 (hC := sp_7_extend_d (x := 0) i0 (by omega) (by rw [g1, upd_s]; rfl) (by rw [g3, upd_s]; rfl) (by decide) hl2.1 hca (nI a)) (k := fun r ψ hr => ?_)
            obtain ⟨rfl, hψ⟩ := hr
            have A3 : am_A ψ 3 3 = upd (am_A ω 3 3) t (nI (min (0 * 10 + (tc a - 48)) 100)) := by rw [hψ, am_A_sA, if_pos ⟨rfl, rfl⟩]
            have Ao : ∀ k, k ≠ 3 → am_A ψ 3 k = am_A ω 3 k := fun k hk => by rw [hψ, am_A_sA, if_neg (fun z => hk z.1)]
            refine go ψ _ (by rw [hψ]; exact (F.tr F2).sA _ _) (Or.inr (Or.inl ⟨rfl, t, a, ⟨by rw [hψ]; exact i0, by omega, ct, fun s hs => ?_, ck, fun i i1 i2 => by rw [show i = a by omega]; exact hl, by rw [Ao 2 (by decide), g2, upd_s], by rw [Ao 4 (by decide), g4, upd_s]⟩, ?_, ?_⟩)) (by decide)
            · exact (cr s hs).cg (by rw [Ao 1 (by decide), g1, upd_n (by omega)]) (by rw [Ao 2 (by decide), g2, upd_n (by omega)]) (by rw [A3, upd_n (by omega), g3, upd_n (by omega)]) (by rw [Ao 4 (by decide), g4, upd_n (by omega)])
            · rw [Ao 1 (by decide), g1, upd_s]; rfl
            · rw [A3, upd_s, show a + 1 - a = 1 by omega]; rfl
        · obtain ⟨b1, b2, b3, b4, b5, b6⟩ := tk_k_o k1 k2
          obtain ⟨t, c0, ct, cr, ck⟩ := hI.close (by omega) (fun _ => Or.inr ⟨k1, k2⟩)
          have n1 : ¬ nI (tk_k (tc a)) = 1 := fun z => k1 (nI_inj (by omega) (by decide) (show _ = nI 1 from z))
          have n2 : ¬ nI (tk_k (tc a)) = 2 := fun z => k2 (nI_inj (by omega) (by decide) (show _ = nI 2 from z))
          refine kb_7_cut_40 (kt := fun z => absurd z n1) (kf := fun _ => kb_7_cut_48 (kf := fun z => absurd z n2) (kt := fun _ => kb_7_cut_58 (k := kb_7_cut_59 (kf := fun z => absurd rfl z) (kt := fun _ => ?_))))
          by_cases k4 : tk_k (tc a) = 4
          · refine kb_7_cut_84 (kf := fun z => absurd (by rw [k4]; rfl) z) (kt := fun _ => go υ _ F (Or.inr (Or.inr ⟨k1, k2, t, c0, by omega, cr, ?_⟩)) b6)
            rw [ck, tk_at_bl (by omega) (b3 k4)]
          · refine kb_7_cut_84 (kt := fun z => absurd (nI_inj (by omega) (by decide) (show _ = nI 4 from z)) k4) (kf := fun _ => ?_)
            have ea : tk_at tc n a = (tk_k (tc a), a, a + 1, 0) := by
              rw [tk_at_nb (by omega) (b4 k4)]
              unfold tk_at1
              rw [b1, b2]; rfl
            rw [ea] at ck
            refine kb_7_cut_90 (hC := sp_7_open c0 (by omega) (nI (tk_k (tc a))) (nI a)) (k := fun r ω hr => ?_)
            obtain ⟨rfl, F2, i0, g1, g2, g3, g4⟩ := hr
            refine kb_7_cut_98 (kf := fun z => absurd rfl z) (kt := fun _ => go ω _ (F.tr F2) (Or.inr (Or.inr ⟨k1, k2, t + 1, i0, by omega, fun s hs => ?_, ?_⟩)) b6)
            · by_cases q : s = t
              · subst q
                unfold ct_r
                rw [ck, g1, g2, g3, g4, upd_s, upd_s, upd_s, upd_s]
                exact ⟨rfl, rfl, rfl, rfl, b5⟩
              · exact (cr s (by omega)).cg (by rw [g1, upd_n q]) (by rw [g2, upd_n q]) (by rw [g3, upd_n q]) (by rw [g4, upd_n q])
            · show tk_at tc n (tk_s tc n t).2.2.1 = _
              rw [ck]
  refine am_enter rfl (by simp [Value.category]) (Nat.le_of_ble_eq_true rfl) (kb_7_cut_0 (k := ?_))
  rw [e900]
  exact loop n 0 4 _ _ _ _ (by omega) (am_On.rf.sI _ _) (Or.inr (Or.inr ⟨by decide, by decide, 0, by rw [am_I_sI, if_pos ⟨rfl, rfl⟩]; rfl, Nat.le_refl _, fun s hs => absurd hs (Nat.not_lt_zero s), rfl⟩)) (by decide)
end CUT
