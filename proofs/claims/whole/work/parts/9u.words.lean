/-! the reference's wordHere: which word of the language stands at a place -/
def wh_m (tc : Nat → Nat) (b e o l : Nat) : Prop := e = b + l ∧ ∀ j, j < l → nI (tc (b + j)) = am_ch (o + j)
section WORD
variable {d b e : Nat} {tc : Nat → Nat} {σ : am_St} {Q : Option Value → am_St → Prop}
theorem kb_11_wordHere_4 {k : Nat} {a0 a1 a3 : Option Value} (kk : am_T true ya_11_wordHere (d + 4) Q 10 [a0, a1, some (.int (nI k)), a3] [.int 35, .int (nI k)] σ) : am_T true ya_11_wordHere (d + 4) Q 4 [a0, a1, some (.int (nI k)), a3] [] σ := by
  refine am_iload_n (am_dec td_11_wordHere 4 rfl) rfl rfl (am_ldcS rfl (am_dec td_11_wordHere 5 rfl) (am_callVs (as := []) (rest := [.int (nI k)]) (am_dec td_11_wordHere 6 rfl) mw_98_length rfl rfl rfl (by simp [Value.category]) sp_98_length (fun r τ hr => ?_)))
  obtain ⟨rfl, rfl⟩ := hr
  exact kk
theorem kb_11_wordHere_15 {k i : Nat} {a0 a1 : Option Value} (hk : k + i < 35) (kk : am_T true ya_11_wordHere (d + 4) Q 23 [a0, a1, some (.int (nI k)), some (.int (nI i))] [.int (am_ch (k + i))] σ) : am_T true ya_11_wordHere (d + 4) Q 15 [a0, a1, some (.int (nI k)), some (.int (nI i))] [] σ := by
  refine am_ldcS rfl (am_dec td_11_wordHere 10 rfl) (am_iload_n (am_dec td_11_wordHere 11 rfl) rfl rfl (am_iload_n (am_dec td_11_wordHere 12 rfl) rfl rfl (am_iadd (am_dec td_11_wordHere 13 rfl) ?_)))
  rw [nI_add]
  refine am_callVs (as := [.int (nI (k + i))]) (rest := []) (am_dec td_11_wordHere 14 rfl) mw_98_charAt rfl rfl rfl (by decide) (sp_98_charAt hk) (fun r τ hr => ?_)
  obtain ⟨rfl, rfl⟩ := hr
  exact kk
theorem kb_11_wordHere_41 {k i : Nat} {a1 : Option Value} (h8 : am_I σ 16 8 = nI b) (ht : am_A σ 16 1 (b + i) = nI (tc (b + i))) (hb : b + i < 900) (hk : k + i < 35) (kk : am_T true ya_11_wordHere (d + 4) Q 60 [some (.ref (am_oid 16)), a1, some (.int (nI k)), some (.int (nI i))] [.int (am_ch (k + i)), .int (nI (tc (b + i)))] σ) : am_T true ya_11_wordHere (d + 4) Q 41 [some (.ref (am_oid 16)), a1, some (.int (nI k)), some (.int (nI i))] [] σ := by
  refine am_aload_n (am_dec td_11_wordHere 24 rfl) rfl rfl (am_getA (am_dec td_11_wordHere 25 rfl) fl_11_7 rfl (by decide) rfl (am_aload_n (am_dec td_11_wordHere 26 rfl) rfl rfl (am_getI (am_dec td_11_wordHere 27 rfl) fl_11_125 rfl (by decide) rfl (am_iload_n (am_dec td_11_wordHere 28 rfl) rfl rfl (am_iadd (am_dec td_11_wordHere 29 rfl) ?_)))))
  rw [h8, nI_add]
  refine am_iald (am_dec td_11_wordHere 30 rfl) rfl (by decide) rfl (vp_in_nI hb (by decide)) ?_
  rw [nI_clamp (show b + i < 2 ^ 31 by omega), ht]
  refine am_ldcS rfl (am_dec td_11_wordHere 31 rfl) (am_iload_n (am_dec td_11_wordHere 32 rfl) rfl rfl (am_iload_n (am_dec td_11_wordHere 33 rfl) rfl rfl (am_iadd (am_dec td_11_wordHere 34 rfl) ?_)))
  rw [nI_add]
  refine am_callVs (as := [.int (nI (k + i))]) (rest := [.int (nI (tc (b + i)))]) (am_dec td_11_wordHere 35 rfl) mw_98_charAt rfl rfl rfl (by simp [Value.category]) (sp_98_charAt hk) (fun r τ hr => ?_)
  obtain ⟨rfl, rfl⟩ := hr
  exact kk
theorem kb_11_wordHere_69 {k i : Nat} {a0 a1 : Option Value} (hk : k + i < 35) (kk : am_T true ya_11_wordHere (d + 4) Q 77 [a0, a1, some (.int (nI k)), some (.int (nI i))] [.int (am_ch (k + i))] σ) : am_T true ya_11_wordHere (d + 4) Q 69 [a0, a1, some (.int (nI k)), some (.int (nI i))] [] σ := by
  refine am_ldcS rfl (am_dec td_11_wordHere 39 rfl) (am_iload_n (am_dec td_11_wordHere 40 rfl) rfl rfl (am_iload_n (am_dec td_11_wordHere 41 rfl) rfl rfl (am_iadd (am_dec td_11_wordHere 42 rfl) ?_)))
  rw [nI_add]
  refine am_callVs (as := [.int (nI (k + i))]) (rest := []) (am_dec td_11_wordHere 43 rfl) mw_98_charAt rfl rfl rfl (by decide) (sp_98_charAt hk) (fun r τ hr => ?_)
  obtain ⟨rfl, rfl⟩ := hr
  exact kk
theorem kb_11_wordHere_97 {k : Nat} {a0 a1 a3 : Option Value} (hk : k < 35) (kk : am_T true ya_11_wordHere (d + 4) Q 103 [a0, a1, some (.int (nI k)), a3] [.int (am_ch k)] σ) : am_T true ya_11_wordHere (d + 4) Q 97 [a0, a1, some (.int (nI k)), a3] [] σ := by
  refine am_ldcS rfl (am_dec td_11_wordHere 55 rfl) (am_iload_n (am_dec td_11_wordHere 56 rfl) rfl rfl (am_callVs (as := [.int (nI k)]) (rest := []) (am_dec td_11_wordHere 57 rfl) mw_98_charAt rfl rfl rfl (by decide) (sp_98_charAt hk) (fun r τ hr => ?_)))
  obtain ⟨rfl, rfl⟩ := hr
  exact kk
/-- one word of the language -/
theorem wh_word {nn o l : Nat} (h7 : am_I σ 16 7 = nI e) (h8 : am_I σ 16 8 = nI b) (hb : b ≤ e) (he : e ≤ 900) (ht : ∀ i, i < e → am_A σ 16 1 i = nI (tc i)) (hc : ∀ i, tc i < 256) (ho : o + l < 35) (hw : ∀ j, j < l → am_ch (o + j) ≠ 32) (hs : am_ch (o + l) = 32)
    (yes : wh_m tc b e o l → Q (some (.int (nI nn))) σ) (no : ¬ wh_m tc b e o l → ∀ a3 : Option Value, am_T true ya_11_wordHere (d + 4) Q 4 [some (.ref (am_oid 16)), some (.int (nI (nn + 1))), some (.int (nI (o + l + 1))), a3] [] σ) (a3 : Option Value) : am_T true ya_11_wordHere (d + 4) Q 4 [some (.ref (am_oid 16)), some (.int (nI nn)), some (.int (nI o)), a3] [] σ := by
  have skip : ¬ wh_m tc b e o l → ∀ (j i : Nat) (a3 : Option Value), i + j = l → am_T true ya_11_wordHere (d + 4) Q 97 [some (.ref (am_oid 16)), some (.int (nI nn)), some (.int (nI (o + i))), a3] [] σ := by
    intro hn j
    induction j with
    | zero =>
      intro i a3 hi
      have : i = l := by omega
      subst this
      refine kb_11_wordHere_97 ho (kb_11_wordHere_103 (kf := fun z => absurd hs z) (kt := fun _ => kb_11_wordHere_114 (k := ?_)))
      rw [nI_1, nI_1]
      exact no hn a3
    | succ j ih =>
      intro i a3 hi
      refine kb_11_wordHere_97 (by omega) (kb_11_wordHere_103 (kt := fun z => absurd z (hw i (by omega))) (kf := fun _ => kb_11_wordHere_108 (k := ?_)))
      rw [nI_1]
      exact ih (i + 1) a3 (by omega)
  have skip0 : ¬ wh_m tc b e o l → ∀ a3 : Option Value, am_T true ya_11_wordHere (d + 4) Q 97 [some (.ref (am_oid 16)), some (.int (nI nn)), some (.int (nI o)), a3] [] σ := fun hn a3 => skip hn l 0 a3 (by omega)
  have inner : ∀ (j i : Nat), i + j = l → b + i ≤ e → (∀ k, k < i → nI (tc (b + k)) = am_ch (o + k)) → am_T true ya_11_wordHere (d + 4) Q 15 [some (.ref (am_oid 16)), some (.int (nI nn)), some (.int (nI o)), some (.int (nI i))] [] σ := by
    intro j
    induction j with
    | zero =>
      intro i hi hbe hm
      have : i = l := by omega
      subst this
      refine kb_11_wordHere_15 ho (kb_11_wordHere_23 (kf := fun z => absurd hs z) (kt := fun _ => kb_11_wordHere_69 ho (kb_11_wordHere_77 (kt := fun z => absurd hs z) (kf := fun _ => ?_))))
      by_cases q : e = b + i
      · refine kb_11_wordHere_82 (kt := fun z => absurd (by rw [h7, h8, nI_add, q]) z) (kf := fun _ => kb_11_wordHere_95 (hq := yes ⟨q, hm⟩))
      · refine kb_11_wordHere_82 (kf := fun z => absurd (nI_inj (by omega) (by omega) (show nI (b + i) = nI e by rw [h7, h8, nI_add] at z; exact z)) (fun w => q w.symm)) (kt := fun _ => skip0 (fun w => q w.1) _)
    | succ j ih =>
      intro i hi hbe hm
      have hci : ¬ am_ch (o + i) = 32 := hw i (by omega)
      have out : ¬ wh_m tc b e o l → am_T true ya_11_wordHere (d + 4) Q 69 [some (.ref (am_oid 16)), some (.int (nI nn)), some (.int (nI o)), some (.int (nI i))] [] σ := fun hn =>
        kb_11_wordHere_69 (by omega) (kb_11_wordHere_77 (kf := fun z => absurd z hci) (kt := fun _ => skip0 hn _))
      refine kb_11_wordHere_15 (by omega) (kb_11_wordHere_23 (kt := fun z => absurd z hci) (kf := fun _ => ?_))
      by_cases q : b + i < e
      · refine kb_11_wordHere_28 (kt := fun z => absurd z (by rw [h7, h8, nI_add]; exact nI_ge q (by omega))) (kf := fun _ => ?_)
        refine kb_11_wordHere_41 h8 (ht _ q) (by omega) (by omega) ?_
        by_cases q2 : nI (tc (b + i)) = am_ch (o + i)
        · refine kb_11_wordHere_60 (kt := fun z => absurd q2 z) (kf := fun _ => kb_11_wordHere_63 (k := ?_))
          rw [nI_1]
          refine ih (i + 1) (by omega) (by omega) (fun k hk => ?_)
          by_cases q3 : k = i
          · rw [q3]; exact q2
          · exact hm k (by omega)
        · exact kb_11_wordHere_60 (kf := fun z => absurd z q2) (kt := fun _ => out (fun w => q2 (w.2 i (by omega))))
      · refine kb_11_wordHere_28 (kf := fun z => absurd (by rw [h7, h8, nI_add]; exact nI_le (by omega) (by omega)) z) (kt := fun _ => out (fun w => ?_))
        have := w.1
        omega
  refine kb_11_wordHere_4 (kb_11_wordHere_10 (kt := fun z => absurd (show nI 35 ≤ nI o from z) (nI_ge (by omega) (by decide))) (kf := fun _ => kb_11_wordHere_13 (k := ?_)))
  exact inner l 0 (by omega) (by omega) (fun k hk => absurd hk (Nat.not_lt_zero k))
end WORD
/-- a word of the language by its number -/
def wh_n (w : Nat) : Int32 := if w = 16083 then 0 else if w = 10492274 then 1 else if w = 1489 then 2 else if w = 388708 then 3 else if w = 249 then 4 else if w = 14006 then 5 else if w = 397838 then 6 else if w = 1111 then 7 else -1
theorem tk_w_pos {tc : Nat → Nat} {b : Nat} : ∀ {k : Nat}, 0 < k → (∀ i, i < k → tk_lt (tc (b + i)) = true) → 0 < tk_w tc b k := by
  intro k
  cases k with
  | zero => intro h; exact absurd h (Nat.lt_irrefl 0)
  | succ k =>
    intro _ h
    have := of_decide_eq_true (show decide (97 ≤ tc (b + k) ∧ tc (b + k) ≤ 122) = true from h k (by omega))
    show 0 < tk_w tc b k * 27 + (tc (b + k) - 96)
    omega
theorem tk_w_inj {tc tc' : Nat → Nat} {b b' : Nat} : ∀ {k k' : Nat}, (∀ i, i < k → tk_lt (tc (b + i)) = true) → (∀ i, i < k' → tk_lt (tc' (b' + i)) = true) → tk_w tc b k = tk_w tc' b' k' → k = k' ∧ ∀ i, i < k → tc (b + i) = tc' (b' + i) := by
  intro k
  induction k with
  | zero =>
    intro k' _ h' h
    rcases Nat.eq_zero_or_pos k' with z | z
    · exact ⟨z.symm, fun i hi => absurd hi (Nat.not_lt_zero i)⟩
    · have := tk_w_pos z h'
      have e : tk_w tc b 0 = 0 := rfl
      omega
  | succ k ih =>
    intro k' h1 h' h
    cases k' with
    | zero =>
      have := tk_w_pos (k := k + 1) (by omega) h1
      have e : tk_w tc' b' 0 = 0 := rfl
      omega
    | succ k' =>
      have d1 := of_decide_eq_true (show decide (97 ≤ tc (b + k) ∧ tc (b + k) ≤ 122) = true from h1 k (by omega))
      have d2 := of_decide_eq_true (show decide (97 ≤ tc' (b' + k') ∧ tc' (b' + k') ≤ 122) = true from h' k' (by omega))
      have h2 : tk_w tc b k * 27 + (tc (b + k) - 96) = tk_w tc' b' k' * 27 + (tc' (b' + k') - 96) := h
      obtain ⟨e1, e2⟩ := ih (fun i hi => h1 i (by omega)) (fun i hi => h' i (by omega)) (show tk_w tc b k = tk_w tc' b' k' by omega)
      subst e1
      refine ⟨rfl, fun i hi => ?_⟩
      by_cases q : i = k
      · rw [q]; omega
      · exact e2 i (by omega)
/-- the language's words as signs -/
def wh_c (k : Nat) : Nat := (am_tx.getD k 0).toNatClampNeg
theorem wh_c_ok : ∀ k, k < 35 → am_ch k = nI (wh_c k) ∧ wh_c k < 256 := by decide +kernel
theorem wh_mw {tc : Nat → Nat} {b e o l w : Nat} (hc : ∀ i, tc i < 256) (hb : b ≤ e) (hl : ∀ i, b ≤ i → i < e → tk_lt (tc i) = true) (ho : o + l < 35) (hw : ∀ i, i < l → tk_lt (wh_c (o + i)) = true) (hn : tk_w wh_c o l = w) : wh_m tc b e o l ↔ tk_w tc b (e - b) = w := by
  have hl' : ∀ i, i < e - b → tk_lt (tc (b + i)) = true := fun i hi => hl (b + i) (by omega) (by omega)
  constructor
  · intro ⟨h1, h2⟩
    have e1 : e - b = l := by omega
    have h3 : ∀ i, i < l → tc (b + i) = wh_c (o + i) := fun i hi => by
      have := wh_c_ok (o + i) (by omega)
      have h4 := hc (b + i)
      exact nI_inj (by omega) (by omega) ((h2 i hi).trans this.1)
    rw [e1, ← hn]
    have : ∀ k, k ≤ l → tk_w tc b k = tk_w wh_c o k := by
      intro k
      induction k with
      | zero => intro _; rfl
      | succ k ih =>
        intro hk
        show tk_w tc b k * 27 + (tc (b + k) - 96) = tk_w wh_c o k * 27 + (wh_c (o + k) - 96)
        rw [ih (by omega), h3 k (by omega)]
    exact this l (Nat.le_refl _)
  · intro h
    obtain ⟨e1, e2⟩ := tk_w_inj hl' hw (h.trans hn.symm)
    refine ⟨by omega, fun j hj => ?_⟩
    rw [e2 j (by omega)]
    exact (wh_c_ok (o + j) (by omega)).1.symm
theorem sp_11_wordHere {d b e : Nat} {tc : Nat → Nat} {σ : am_St} (h7 : am_I σ 16 7 = nI e) (h8 : am_I σ 16 8 = nI b) (hb : b ≤ e) (he : e ≤ 900) (ht : ∀ i, i < e → am_A σ 16 1 i = nI (tc i)) (hc : ∀ i, tc i < 256) (hl : ∀ i, b ≤ i → i < e → tk_lt (tc i) = true) : am_C true ya_11_wordHere (d + 4) [.ref (am_oid 16)] σ (fun r τ => τ = σ ∧ r = some (.int (wh_n (tk_w tc b (e - b))))) := by
  refine am_enter rfl (by simp [Value.category]) (Nat.le_of_ble_eq_true rfl) (kb_11_wordHere_0 (k := ?_))
  have m0 := wh_mw (o := 0) (l := 3) (w := 16083) hc hb hl (by decide) (by decide +kernel) (by decide +kernel)
  have m1 := wh_mw (o := 4) (l := 5) (w := 10492274) hc hb hl (by decide) (by decide +kernel) (by decide +kernel)
  have m2 := wh_mw (o := 10) (l := 3) (w := 1489) hc hb hl (by decide) (by decide +kernel) (by decide +kernel)
  have m3 := wh_mw (o := 14) (l := 4) (w := 388708) hc hb hl (by decide) (by decide +kernel) (by decide +kernel)
  have m4 := wh_mw (o := 19) (l := 2) (w := 249) hc hb hl (by decide) (by decide +kernel) (by decide +kernel)
  have m5 := wh_mw (o := 22) (l := 3) (w := 14006) hc hb hl (by decide) (by decide +kernel) (by decide +kernel)
  have m6 := wh_mw (o := 26) (l := 4) (w := 397838) hc hb hl (by decide) (by decide +kernel) (by decide +kernel)
  have m7 := wh_mw (o := 31) (l := 3) (w := 1111) hc hb hl (by decide) (by decide +kernel) (by decide +kernel)
  obtain ⟨w, hw⟩ : ∃ w, w = tk_w tc b (e - b) := ⟨_, rfl⟩
  rw [← hw] at m0 m1 m2 m3 m4 m5 m6 m7 ⊢
  refine wh_word (nn := 0) (o := 0) (l := 3) h7 h8 hb he ht hc (by decide) (by decide +kernel) (by decide +kernel) (fun z => ⟨rfl, by rw [m0.mp z]; rfl⟩) (fun z0 _ => ?_) none
  rw [m0] at z0
  refine wh_word (nn := 1) (o := 4) (l := 5) h7 h8 hb he ht hc (by decide) (by decide +kernel) (by decide +kernel) (fun z => ⟨rfl, by rw [m1.mp z]; rfl⟩) (fun z1 _ => ?_) _
  rw [m1] at z1
  refine wh_word (nn := 2) (o := 10) (l := 3) h7 h8 hb he ht hc (by decide) (by decide +kernel) (by decide +kernel) (fun z => ⟨rfl, by rw [m2.mp z]; rfl⟩) (fun z2 _ => ?_) _
  rw [m2] at z2
  refine wh_word (nn := 3) (o := 14) (l := 4) h7 h8 hb he ht hc (by decide) (by decide +kernel) (by decide +kernel) (fun z => ⟨rfl, by rw [m3.mp z]; rfl⟩) (fun z3 _ => ?_) _
  rw [m3] at z3
  refine wh_word (nn := 4) (o := 19) (l := 2) h7 h8 hb he ht hc (by decide) (by decide +kernel) (by decide +kernel) (fun z => ⟨rfl, by rw [m4.mp z]; rfl⟩) (fun z4 _ => ?_) _
  rw [m4] at z4
  refine wh_word (nn := 5) (o := 22) (l := 3) h7 h8 hb he ht hc (by decide) (by decide +kernel) (by decide +kernel) (fun z => ⟨rfl, by rw [m5.mp z]; rfl⟩) (fun z5 _ => ?_) _
  rw [m5] at z5
  refine wh_word (nn := 6) (o := 26) (l := 4) h7 h8 hb he ht hc (by decide) (by decide +kernel) (by decide +kernel) (fun z => ⟨rfl, by rw [m6.mp z]; rfl⟩) (fun z6 _ => ?_) _
  rw [m6] at z6
  refine wh_word (nn := 7) (o := 31) (l := 3) h7 h8 hb he ht hc (by decide) (by decide +kernel) (by decide +kernel) (fun z => ⟨rfl, by rw [m7.mp z]; rfl⟩) (fun z7 a3 => ?_) _
  rw [m7] at z7
  refine kb_11_wordHere_4 (k := 35) (kb_11_wordHere_10 (kf := fun z => absurd (show (35 : Int32) ≤ nI 35 by decide) z) (kt := fun _ => kb_11_wordHere_123 (hq := ⟨rfl, ?_⟩)))
  unfold wh_n
  rw [if_neg z0, if_neg z1, if_neg z2, if_neg z3, if_neg z4, if_neg z5, if_neg z6, if_neg z7]
