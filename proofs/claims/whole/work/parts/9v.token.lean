/-! the reference's token() -/
/-- a word's number by 27 as one by 32 -/
def ph : Nat → Nat → Nat
  | 0, _ => 0
  | f + 1, w => ph f (w / 27) * 32 + w % 27
theorem ph_0 : ∀ f, ph f 0 = 0 := by
  intro f
  induction f with
  | zero => rfl
  | succ f ih => show ph f (0 / 27) * 32 + 0 % 27 = 0; rw [Nat.zero_div, ih]
theorem ph_x {tc : Nat → Nat} {b : Nat} : ∀ {k f : Nat}, k ≤ f → (∀ i, i < k → tk_lt (tc (b + i)) = true) → tk_x tc b k = ph f (tk_w tc b k) := by
  intro k
  induction k with
  | zero => intro f _ _; exact (ph_0 f).symm
  | succ k ih =>
    intro f hf h
    cases f with
    | zero => omega
    | succ f =>
      have d1 := of_decide_eq_true (show decide (97 ≤ tc (b + k) ∧ tc (b + k) ≤ 122) = true from h k (by omega))
      have e1 : (tk_w tc b k * 27 + (tc (b + k) - 96)) / 27 = tk_w tc b k := by omega
      have e2 : (tk_w tc b k * 27 + (tc (b + k) - 96)) % 27 = tc (b + k) - 96 := by omega
      show tk_x tc b k * 32 + (tc (b + k) - 96) = ph f ((tk_w tc b k * 27 + (tc (b + k) - 96)) / 27) * 32 + (tk_w tc b k * 27 + (tc (b + k) - 96)) % 27
      rw [e1, e2, ih (f := f) (by omega) (fun i hi => h i (by omega))]
theorem ph_inj : ∀ (f : Nat) {w w' : Nat}, w < 27 ^ f → w' < 27 ^ f → ph f w = ph f w' → w = w' := by
  intro f
  induction f with
  | zero => intro w w' h1 h2 _; rw [Nat.pow_zero] at h1 h2; omega
  | succ f ih =>
    intro w w' h1 h2 h
    rw [Nat.pow_succ] at h1 h2
    have h3 : ph f (w / 27) * 32 + w % 27 = ph f (w' / 27) * 32 + w' % 27 := h
    have e1 := ih (w := w / 27) (w' := w' / 27) (by omega) (by omega) (by omega)
    omega
theorem ph_lt : ∀ (f w : Nat), ph f w < 32 ^ f := by
  intro f
  induction f with
  | zero => intro w; exact Nat.one_pos
  | succ f ih =>
    intro w
    have h1 := ih (w / 27)
    show ph f (w / 27) * 32 + w % 27 < 32 ^ (f + 1)
    rw [Nat.pow_succ]
    omega
theorem tk_x_lt {tc : Nat → Nat} {b : Nat} : ∀ {k : Nat}, (∀ i, i < k → tk_lt (tc (b + i)) = true) → tk_x tc b k < 32 ^ k := by
  intro k h
  rw [ph_x (Nat.le_refl k) h]
  exact ph_lt _ _
theorem bt_nI (y i : Nat) (hi : i < 32) : bt (nI y) i = y.testBit i := by
  unfold bt
  show (BitVec.ofNat 32 y).getLsbD i = _
  rw [BitVec.getLsbD_ofNat]
  simp [hi]
theorem sh_5 {x c : Nat} (hc : c < 32) : (nI x <<< ((5 : Int32) &&& 31)) ||| nI c = nI (x * 32 + c) := by
  apply b_ext
  intro i hi
  rw [b_or, show (5 : Int32) = nI 5 from rfl, b_shl 5 (by decide) _ hi, bt_nI _ _ hi, bt_nI _ _ hi, show x * 32 + c = 2 ^ 5 * x + c by omega, Nat.testBit_two_pow_mul_add x (show c < 2 ^ 5 by omega)]
  by_cases q : i < 5
  · rw [if_pos q]
    have : decide (5 ≤ i) = false := decide_eq_false (by omega)
    rw [this]; simp
  · rw [if_neg q, bt_nI _ _ (by omega)]
    have : decide (5 ≤ i) = true := decide_eq_true (by omega)
    have h2 : c.testBit i = false := Nat.testBit_lt_two_pow (Nat.lt_of_lt_of_le hc (by show 2 ^ 5 ≤ 2 ^ i; exact Nat.pow_le_pow_right (by decide) (by omega)))
    rw [this, h2]; simp
def rs_k (k : Nat) : Int32 := if k = 0 then 3 else if k = 1 then 0 else if k = 2 then 1 else if k = 3 then 4 else 2
/-- the reference stands at the token x -/
def rt_t (σ : am_St) (x : tk_T) : Prop := am_I σ 16 7 = nI x.2.2.1 ∧ am_I σ 16 8 = nI x.2.1 ∧ am_I σ 16 9 = rs_k x.1 ∧ (x.1 = 1 → am_I σ 16 10 = wh_n x.2.2.2 ∧ am_I σ 16 11 = nI (ph 6 x.2.2.2)) ∧ (x.1 = 2 → ∃ v, v ≤ 99999 ∧ am_I σ 16 10 = nI v ∧ min v 100 = x.2.2.2) ∧ (4 ≤ x.1 → am_I σ 16 10 = nI x.1)
section TOKEN
variable {d n a : Nat} {tc : Nat → Nat} {σ : am_St}
abbrev mo_KF := mo_Fm [7, 8, 9, 10, 11] []
theorem sp_11_token (hn : n ≤ 900) (hc : ∀ i, tc i < 256) (h6 : am_I σ 16 6 = nI n) (h7 : am_I σ 16 7 = nI a) (ha : a ≤ n) (ht : ∀ i, i < n → am_A σ 16 1 i = nI (tc i)) : am_C true ya_11_token (d + 5) [.ref (am_oid 16)] σ (fun r τ => r = none ∧ mo_KF σ τ ∧ rt_t τ (tk_at tc n a)) := by
  have T1 : ∀ {τ : am_St}, mo_KF σ τ → ∀ i, i < n → am_A τ 16 1 i = nI (tc i) := fun F i hi => by rw [F.2 1 rfl]; exact ht i hi
  have N6 : ∀ {τ : am_St}, mo_KF σ τ → am_I τ 16 6 = nI n := fun F => (F.1 6 rfl).trans h6
  have here : ∀ {τ : am_St} {q : Nat} (d : Nat), mo_KF σ τ → am_I τ 16 7 = nI q → q ≤ n → am_C true ya_11_here d [.ref (am_oid 16)] τ (fun r ω => ω = τ ∧ r = some (.int (if q < n then nI (tc q) else -1))) := fun d F h hq => sp_11_here (N6 F) h hn hq (T1 F)
  /- behind a word -/
  have words : ∀ (j q b : Nat) (τ : am_St) (a1 : Option Value), q + j = n → b < q ∨ (b = q ∧ q < n ∧ tk_lt (tc q) = true) → mo_KF σ τ → am_I τ 16 7 = nI q → am_I τ 16 8 = nI b → am_I τ 16 11 = nI (tk_x tc b (min 6 (q - b))) → (∀ i, b ≤ i → i < q → tk_lt (tc i) = true) → am_T true ya_11_token (d + 5) (fun r τ => r = none ∧ mo_KF σ τ ∧ rt_t τ (tk_at1 tc n b)) 69 [some (.ref (am_oid 16)), a1] [] τ := by
    intro j
    have fin : ∀ (q b : Nat) (τ : am_St) (a1 : Option Value), q ≤ n → b < q → mo_KF σ τ → am_I τ 16 7 = nI q → am_I τ 16 8 = nI b → am_I τ 16 11 = nI (tk_x tc b (min 6 (q - b))) → (∀ i, b ≤ i → i < q → tk_lt (tc i) = true) → ¬ (q < n ∧ tk_lt (tc q) = true) → am_T true ya_11_token (d + 5) (fun r τ => r = none ∧ mo_KF σ τ ∧ rt_t τ (tk_at1 tc n b)) 126 [some (.ref (am_oid 16)), a1] [] τ := by
      intro q b τ a1 hq hb F g7 g8 g11 hl hs
      have ee : tk_e tc tk_lt n b = q := tk_e_run hs hq (q - b) b (by omega) hl
      have et : tk_at1 tc n b = (if q - b ≤ 6 then 1 else 3, b, q, tk_w tc b (min 6 (q - b))) := by
        unfold tk_at1
        rw [if_pos (hl b (Nat.le_refl _) hb), ee]
      rw [et]
      have es : am_I τ 16 7 - am_I τ 16 8 = nI (q - b) := by rw [g7, g8, nI_sub (by omega)]
      have wh : ∀ (s0 : Int32), am_C true ya_11_wordHere (d + 4) [.ref (am_oid 16)] (am_sI τ 16 9 s0) (fun r ω => ω = am_sI τ 16 9 s0 ∧ r = some (.int (wh_n (tk_w tc b (q - b))))) := fun s0 => sp_11_wordHere (by rw [am_I_sI, if_neg (by simp)]; exact g7) (by rw [am_I_sI, if_neg (by simp)]; exact g8) (by omega) (by omega) (fun i hi => T1 F i (by omega)) hc hl
      by_cases c6 : q - b ≤ 6
      · rw [if_pos c6, Nat.min_eq_right c6]
        rw [Nat.min_eq_right c6] at g11
        refine kb_11_token_126 (kt := fun z => absurd z (by rw [es, show (6 : Int32) = nI 6 from rfl]; exact nI_nlt c6 (by omega))) (kf := fun _ => kb_11_token_141 (k := ?_))
        refine kb_11_token_146 (hC := wh 0) (k := fun r ω hr => ?_)
        obtain ⟨rfl, rfl⟩ := hr
        refine kb_11_token_154 (k := kb_11_token_267 ⟨rfl, (F.sI (by rfl) _).sI (by rfl) _, ?_, ?_, ?_, fun _ => ⟨?_, ?_⟩, fun z => absurd (show (1 : Nat) = 2 from z) (by decide), fun z => absurd (show 4 ≤ 1 from z) (by decide)⟩)
        · rw [am_I_sI, if_neg (by simp), am_I_sI, if_neg (by simp)]; exact g7
        · rw [am_I_sI, if_neg (by simp), am_I_sI, if_neg (by simp)]; exact g8
        · rw [am_I_sI, if_neg (by simp), am_I_sI, if_pos ⟨rfl, rfl⟩]; rfl
        · rw [am_I_sI, if_pos ⟨rfl, rfl⟩]
        · rw [am_I_sI, if_neg (by simp), am_I_sI, if_neg (by simp), g11, ph_x (f := 6) c6 (fun i hi => hl (b + i) (by omega) (by omega))]
      · rw [if_neg c6]
        refine kb_11_token_126 (kf := fun z => absurd (by rw [es, show (6 : Int32) = nI 6 from rfl]; exact nI_lt (by omega) (by omega)) z) (kt := fun _ => kb_11_token_145 (k := ?_))
        refine kb_11_token_146 (hC := wh 4) (k := fun r ω hr => ?_)
        obtain ⟨rfl, rfl⟩ := hr
        refine kb_11_token_154 (k := kb_11_token_267 ⟨rfl, (F.sI (by rfl) _).sI (by rfl) _, ?_, ?_, ?_, fun z => absurd (show (3 : Nat) = 1 from z) (by decide), fun z => absurd (show (3 : Nat) = 2 from z) (by decide), fun z => absurd (show 4 ≤ 3 from z) (by decide)⟩)
        · rw [am_I_sI, if_neg (by simp), am_I_sI, if_neg (by simp)]; exact g7
        · rw [am_I_sI, if_neg (by simp), am_I_sI, if_neg (by simp)]; exact g8
        · rw [am_I_sI, if_neg (by simp), am_I_sI, if_pos ⟨rfl, rfl⟩]; rfl
    induction j with
    | zero =>
      intro q b τ a1 hq hb F g7 g8 g11 hl
      have : q = n := by omega
      subst this
      have hb' : b < q := by
        rcases hb with z | z
        · exact z
        · exact absurd z.2.1 (Nat.lt_irrefl _)
      refine kb_11_token_69 (hC := here _ F g7 (Nat.le_refl _)) (k := fun r ω hr => ?_)
      obtain ⟨rfl, rfl⟩ := hr
      rw [if_neg (Nat.lt_irrefl _)]
      refine kb_11_token_73 (hC := sp_11_isSmall_e) (k := fun r ω' hr => ?_)
      obtain ⟨rfl, rfl⟩ := hr
      exact kb_11_token_76 (kf := fun z => absurd rfl z) (kt := fun _ => fin q b _ a1 (Nat.le_refl _) hb' F g7 g8 g11 hl (fun z => absurd z.1 (Nat.lt_irrefl _)))
    | succ j ih =>
      intro q b τ a1 hq hb F g7 g8 g11 hl
      have hbq : b ≤ q := by omega
      refine kb_11_token_69 (hC := here _ F g7 (by omega)) (k := fun r ω hr => ?_)
      obtain ⟨rfl, rfl⟩ := hr
      rw [if_pos (by omega)]
      refine kb_11_token_73 (hC := sp_11_isSmall (hc q)) (k := fun r ω' hr => ?_)
      obtain ⟨rfl, rfl⟩ := hr
      cases el : tk_lt (tc q) with
      | false =>
        have hb' : b < q := by
          rcases hb with z | z
          · exact z
          · rw [el] at z; exact absurd z.2.2 (by decide)
        exact kb_11_token_76 (kf := fun z => absurd rfl z) (kt := fun _ => fin q b _ a1 (by omega) hb' F g7 g8 g11 hl (fun z => by rw [el] at z; exact absurd z.2 (by decide)))
      | true =>
        have d1 := of_decide_eq_true (show decide (97 ≤ tc q ∧ tc q ≤ 122) = true from el)
        have hl' : ∀ i, b ≤ i → i < q + 1 → tk_lt (tc i) = true := fun i h1 h2 => by
          by_cases e : i = q
          · rw [e]; exact el
          · exact hl i h1 (by omega)
        have es : am_I ω' 16 7 - am_I ω' 16 8 = nI (q - b) := by rw [g7, g8, nI_sub (by omega)]
        refine kb_11_token_76 (kt := fun z => absurd z (by decide)) (kf := fun _ => ?_)
        by_cases c6 : q - b < 6
        · refine kb_11_token_79 (kt := fun z => absurd z (by rw [es, show (6 : Int32) = nI 6 from rfl]; exact nI_ge c6 (by omega))) (kf := fun _ => ?_)
          refine kb_11_token_93 (hC := here _ F g7 (by omega)) (k := fun r ω2 hr => ?_)
          obtain ⟨rfl, rfl⟩ := hr
          rw [if_pos (by omega)]
          refine kb_11_token_104 (k := kb_11_token_113 (k := ?_))
          have ec : (nI (tc q) - 97) + 1 = nI (tc q - 96) := by
            rw [show (97 : Int32) = nI 97 from rfl, nI_sub d1.1, nI_1]
            congr 1; omega
          rw [ec, g11, Nat.min_eq_right (by omega), sh_5 (by omega)]
          have e7 : am_I (am_sI ω2 16 11 (nI (tk_x tc b (q - b) * 32 + (tc q - 96)))) 16 7 = nI q := by rw [am_I_sI, if_neg (by simp)]; exact g7
          rw [e7, nI_1]
          refine ih (q + 1) b _ a1 (by omega) (Or.inl (by omega)) ((F.sI (by rfl) _).sI (by rfl) _) (by rw [am_I_sI, if_pos ⟨rfl, rfl⟩]) (by rw [am_I_sI, if_neg (by simp), am_I_sI, if_neg (by simp)]; exact g8) ?_ hl'
          rw [am_I_sI, if_neg (by simp), am_I_sI, if_pos ⟨rfl, rfl⟩, Nat.min_eq_right (by omega), show q + 1 - b = (q - b) + 1 by omega]
          show _ = nI (tk_x tc b (q - b) * 32 + (tc (b + (q - b)) - 96))
          rw [show b + (q - b) = q by omega]
        · refine kb_11_token_79 (kf := fun z => absurd (by rw [es, show (6 : Int32) = nI 6 from rfl]; exact nI_le (by omega) (by omega)) z) (kt := fun _ => kb_11_token_113 (k := ?_))
          rw [g7, nI_1]
          refine ih (q + 1) b _ a1 (by omega) (Or.inl (by omega)) (F.sI (by rfl) _) (by rw [am_I_sI, if_pos ⟨rfl, rfl⟩]) (by rw [am_I_sI, if_neg (by simp)]; exact g8) ?_ hl'
          rw [am_I_sI, if_neg (by simp), g11, Nat.min_eq_left (by omega), Nat.min_eq_left (by omega)]
  /- behind a number -/
  have nums : ∀ (j q b v : Nat) (τ : am_St) (a1 : Option Value), q + j = n → b < q ∨ (b = q ∧ q < n ∧ tk_dg (tc q) = true) → mo_KF σ τ → am_I τ 16 7 = nI q → am_I τ 16 8 = nI b → am_I τ 16 9 = 1 → am_I τ 16 10 = nI v → v ≤ 99999 → min v 100 = tk_d tc b (q - b) → (∀ i, b ≤ i → i < q → tk_dg (tc i) = true) → am_T true ya_11_token (d + 5) (fun r τ => r = none ∧ mo_KF σ τ ∧ rt_t τ (tk_at1 tc n b)) 177 [some (.ref (am_oid 16)), a1] [] τ := by
    intro j
    have fin : ∀ (q b v : Nat) (τ : am_St) (a1 : Option Value), q ≤ n → b < q → mo_KF σ τ → am_I τ 16 7 = nI q → am_I τ 16 8 = nI b → am_I τ 16 9 = 1 → am_I τ 16 10 = nI v → v ≤ 99999 → min v 100 = tk_d tc b (q - b) → (∀ i, b ≤ i → i < q → tk_dg (tc i) = true) → ¬ (q < n ∧ tk_dg (tc q) = true) → am_T true ya_11_token (d + 5) (fun r τ => r = none ∧ mo_KF σ τ ∧ rt_t τ (tk_at1 tc n b)) 267 [some (.ref (am_oid 16)), a1] [] τ := by
      intro q b v τ a1 hq hb F g7 g8 g9 g10 gv gm hl hs
      have ee : tk_e tc tk_dg n b = q := tk_e_run hs hq (q - b) b (by omega) hl
      have eb := hl b (Nat.le_refl _) hb
      have el : ¬ tk_lt (tc b) = true := fun z => by rw [tk_lt_dg z] at eb; exact absurd eb (by decide)
      have et : tk_at1 tc n b = (2, b, q, tk_d tc b (q - b)) := by
        unfold tk_at1
        rw [if_neg el, if_pos eb, ee]
      rw [et]
      exact kb_11_token_267 ⟨rfl, F, g7, g8, g9, fun z => absurd (show (2 : Nat) = 1 from z) (by decide), fun _ => ⟨v, gv, g10, gm⟩, fun z => absurd (show 4 ≤ 2 from z) (by decide)⟩
    induction j with
    | zero =>
      intro q b v τ a1 hq hb F g7 g8 g9 g10 gv gm hl
      have : q = n := by omega
      subst this
      have hb' : b < q := by
        rcases hb with z | z
        · exact z
        · exact absurd z.2.1 (Nat.lt_irrefl _)
      refine kb_11_token_177 (hC := here _ F g7 (Nat.le_refl _)) (k := fun r ω hr => ?_)
      obtain ⟨rfl, rfl⟩ := hr
      rw [if_neg (Nat.lt_irrefl _)]
      refine kb_11_token_181 (hC := sp_11_isDigit_e) (k := fun r ω' hr => ?_)
      obtain ⟨rfl, rfl⟩ := hr
      exact kb_11_token_184 (kf := fun z => absurd rfl z) (kt := fun _ => fin q b v _ a1 (Nat.le_refl _) hb' F g7 g8 g9 g10 gv gm hl (fun z => absurd z.1 (Nat.lt_irrefl _)))
    | succ j ih =>
      intro q b v τ a1 hq hb F g7 g8 g9 g10 gv gm hl
      refine kb_11_token_177 (hC := here _ F g7 (by omega)) (k := fun r ω hr => ?_)
      obtain ⟨rfl, rfl⟩ := hr
      rw [if_pos (by omega)]
      refine kb_11_token_181 (hC := sp_11_isDigit (hc q)) (k := fun r ω' hr => ?_)
      obtain ⟨rfl, rfl⟩ := hr
      cases el : tk_dg (tc q) with
      | false =>
        have hb' : b < q := by
          rcases hb with z | z
          · exact z
          · rw [el] at z; exact absurd z.2.2 (by decide)
        exact kb_11_token_184 (kf := fun z => absurd rfl z) (kt := fun _ => fin q b v _ a1 (by omega) hb' F g7 g8 g9 g10 gv gm hl (fun z => by rw [el] at z; exact absurd z.2 (by decide)))
      | true =>
        have d1 := of_decide_eq_true (show decide (48 ≤ tc q ∧ tc q ≤ 57) = true from el)
        have hl' : ∀ i, b ≤ i → i < q + 1 → tk_dg (tc i) = true := fun i h1 h2 => by
          by_cases e : i = q
          · rw [e]; exact el
          · exact hl i h1 (by omega)
        have ed : tk_d tc b (q + 1 - b) = min (tk_d tc b (q - b) * 10 + (tc q - 48)) 100 := by
          rw [show q + 1 - b = (q - b) + 1 by omega]
          show min (tk_d tc b (q - b) * 10 + (tc (b + (q - b)) - 48)) 100 = _
          rw [show b + (q - b) = q by omega]
        refine kb_11_token_184 (kt := fun z => absurd z (by decide)) (kf := fun _ => ?_)
        have next : ∀ v', v' ≤ 99999 → min v' 100 = min (min v 100 * 10 + (tc q - 48)) 100 → am_T true ya_11_token (d + 5) (fun r τ => r = none ∧ mo_KF σ τ ∧ rt_t τ (tk_at1 tc n b)) 220 [some (.ref (am_oid 16)), a1] [.int (nI v'), .ref (am_oid 16)] ω' := fun v' b1 b2 => by
          refine kb_11_token_220 (k := ?_)
          rw [g7, nI_1]
          refine ih (q + 1) b v' _ a1 (by omega) (Or.inl (by omega)) ((F.sI (by rfl) _).sI (by rfl) _) (by rw [am_I_sI, if_pos ⟨rfl, rfl⟩]) (by rw [am_I_sI, if_neg (by simp), am_I_sI, if_neg (by simp)]; exact g8) (by rw [am_I_sI, if_neg (by simp), am_I_sI, if_neg (by simp)]; exact g9) (by rw [am_I_sI, if_neg (by simp), am_I_sI, if_pos ⟨rfl, rfl⟩]) b1 ?_ hl'
          rw [ed, ← gm]; exact b2
        by_cases c9 : v ≤ 9999
        · refine kb_11_token_187 (kf := fun z => absurd (by rw [g10, show (9999 : Int32) = nI 9999 from rfl]; exact nI_le c9 (by omega)) z) (kt := fun _ => ?_)
          refine kb_11_token_205 (hC := here _ F g7 (by omega)) (k := fun r ω2 hr => ?_)
          obtain ⟨rfl, rfl⟩ := hr
          rw [if_pos (by omega)]
          refine kb_11_token_216 (k := ?_)
          have ev : ((10 * am_I ω2 16 10) + nI (tc q)) - 48 = nI (10 * v + (tc q - 48)) := by
            rw [g10, show (10 : Int32) = nI 10 from rfl, nI_mul, nI_add, show (48 : Int32) = nI 48 from rfl, nI_sub (by omega)]
            congr 1; omega
          rw [ev]
          exact next _ (by omega) (by omega)
        · refine kb_11_token_187 (kt := fun z => absurd z (by rw [g10, show (9999 : Int32) = nI 9999 from rfl]; exact nI_ge (by omega) (by omega))) (kf := fun _ => kb_11_token_198 (k := ?_))
          rw [g10]
          exact next v gv (by omega)
  /- blanks -/
  have blanks : ∀ (j q : Nat) (τ : am_St), q + j = n → mo_KF σ τ → am_I τ 16 7 = nI q → tk_at tc n q = tk_at tc n a → am_T true ya_11_token (d + 5) (fun r τ => r = none ∧ mo_KF σ τ ∧ rt_t τ (tk_at tc n a)) 0 [some (.ref (am_oid 16)), none] [] τ := by
    intro j
    induction j with
    | zero =>
      intro q τ hq F g7 et
      have : q = n := by omega
      subst this
      rw [tk_at_end] at et
      rw [← et]
      have h : (if q < q then nI (tc q) else (-1 : Int32)) = -1 := if_neg (Nat.lt_irrefl _)
      refine kb_11_token_0 (hC := here _ F g7 (Nat.le_refl _)) (k := fun r ω hr => ?_)
      obtain ⟨rfl, rfl⟩ := hr
      rw [h]
      refine kb_11_token_4 (kt := fun z => absurd z (by decide)) (kf := fun _ => ?_)
      refine kb_11_token_9 (hC := here _ F g7 (Nat.le_refl _)) (k := fun r ω' hr => ?_)
      obtain ⟨rfl, rfl⟩ := hr
      rw [h]
      refine kb_11_token_13 (kf := fun z => absurd z (by decide)) (kt := fun _ => ?_)
      refine kb_11_token_31 (hC := here _ (F.sI (k := 8) (by rfl) _) (by rw [am_I_sI, if_neg (by simp)]; exact g7) (Nat.le_refl _)) (k := fun r ω2 hr => ?_)
      obtain ⟨rfl, rfl⟩ := hr
      rw [h]
      refine kb_11_token_43 (kt := fun z => absurd rfl z) (kf := fun _ => kb_11_token_49 (k := kb_11_token_267 ⟨rfl, (F.sI (by rfl) _).sI (by rfl) _, ?_, ?_, ?_, fun z => absurd (show (0 : Nat) = 1 from z) (by decide), fun z => absurd (show (0 : Nat) = 2 from z) (by decide), fun z => absurd (show 4 ≤ 0 from z) (by decide)⟩))
      · rw [am_I_sI, if_neg (by simp), am_I_sI, if_neg (by simp)]; exact g7
      · rw [am_I_sI, if_neg (by simp), am_I_sI, if_pos ⟨rfl, rfl⟩]; exact g7
      · rw [am_I_sI, if_pos ⟨rfl, rfl⟩]; rfl
    | succ j ih =>
      intro q τ hq F g7 et
      have h : (if q < n then nI (tc q) else (-1 : Int32)) = nI (tc q) := if_pos (by omega)
      have hcq := hc q
      have blk : tk_bl (tc q) = true → am_T true ya_11_token (d + 5) (fun r τ => r = none ∧ mo_KF σ τ ∧ rt_t τ (tk_at tc n a)) 18 [some (.ref (am_oid 16)), none] [] τ := fun hb => by
        refine kb_11_token_18 (k := ?_)
        rw [g7, nI_1]
        exact ih (q + 1) _ (by omega) (F.sI (by rfl) _) (by rw [am_I_sI, if_pos ⟨rfl, rfl⟩]) (by rw [← et, tk_at_bl (by omega) hb])
      refine kb_11_token_0 (hC := here _ F g7 (by omega)) (k := fun r ω hr => ?_)
      obtain ⟨rfl, rfl⟩ := hr
      rw [h]
      refine kb_11_token_4 (kt := fun z => blk (by rw [show tc q = 10 from nI_inj (by omega) (by decide) (show nI (tc q) = nI 10 from z)]; decide)) (kf := fun z1 => ?_)
      refine kb_11_token_9 (hC := here _ F g7 (by omega)) (k := fun r ω' hr => ?_)
      obtain ⟨rfl, rfl⟩ := hr
      rw [h]
      refine kb_11_token_13 (kf := fun z => blk (by rw [show tc q = 32 from nI_inj (by omega) (by decide) (show nI (tc q) = nI 32 from z)]; decide)) (kt := fun z2 => ?_)
      have nb : tk_bl (tc q) = false := by
        unfold tk_bl
        refine decide_eq_false (fun w => ?_)
        rcases w with w | w
        · exact z1 (by rw [w]; rfl)
        · exact z2 (by rw [w]; rfl)
      rw [tk_at_nb (by omega) nb] at et
      rw [← et]
      have F8 : mo_KF σ (am_sI ω' 16 8 (am_I ω' 16 7)) := F.sI (by rfl) _
      have e7 : am_I (am_sI ω' 16 8 (am_I ω' 16 7)) 16 7 = nI q := by rw [am_I_sI, if_neg (by simp)]; exact g7
      have e8 : am_I (am_sI ω' 16 8 (am_I ω' 16 7)) 16 8 = nI q := by rw [am_I_sI, if_pos ⟨rfl, rfl⟩]; exact g7
      refine kb_11_token_31 (hC := here _ F8 e7 (by omega)) (k := fun r ω2 hr => ?_)
      obtain ⟨rfl, rfl⟩ := hr
      rw [h]
      refine kb_11_token_43 (kf := fun z => absurd z (nI_neg1 _ (by omega))) (kt := fun _ => ?_)
      refine kb_11_token_57 (hC := sp_11_isSmall hcq) (k := fun r ω3 hr => ?_)
      obtain ⟨rfl, rfl⟩ := hr
      cases el : tk_lt (tc q) with
      | true =>
        refine kb_11_token_61 (kt := fun z => absurd z (by decide)) (kf := fun _ => kb_11_token_64 (k := ?_))
        exact words (j + 1) q q _ _ hq (Or.inr ⟨rfl, by omega, el⟩) (F8.sI (by rfl) _) (by rw [am_I_sI, if_neg (by simp)]; exact e7) (by rw [am_I_sI, if_neg (by simp)]; exact e8) (by rw [am_I_sI, if_pos ⟨rfl, rfl⟩, Nat.sub_self]; rfl) (fun i h1 h2 => absurd h2 (by omega))
      | false =>
        refine kb_11_token_61 (kf := fun z => absurd rfl z) (kt := fun _ => ?_)
        refine kb_11_token_160 (hC := sp_11_isDigit hcq) (k := fun r ω4 hr => ?_)
        obtain ⟨rfl, rfl⟩ := hr
        cases ed : tk_dg (tc q) with
        | true =>
          refine kb_11_token_164 (kt := fun z => absurd z (by decide)) (kf := fun _ => kb_11_token_167 (k := ?_))
          exact nums (j + 1) q q 0 _ _ hq (Or.inr ⟨rfl, by omega, ed⟩) ((F8.sI (by rfl) _).sI (by rfl) _) (by rw [am_I_sI, if_neg (by simp), am_I_sI, if_neg (by simp)]; exact e7) (by rw [am_I_sI, if_neg (by simp), am_I_sI, if_neg (by simp)]; exact e8) (by rw [am_I_sI, if_neg (by simp), am_I_sI, if_pos ⟨rfl, rfl⟩]) (by rw [am_I_sI, if_pos ⟨rfl, rfl⟩]; rfl) (Nat.zero_le _) (by rw [Nat.sub_self]; rfl) (fun i h1 h2 => absurd h2 (by omega))
        | false =>
          refine kb_11_token_164 (kf := fun z => absurd rfl z) (kt := fun _ => ?_)
          refine kb_11_token_236 (hC := sp_11_isMark hcq) (k := fun r ω5 hr => ?_)
          obtain ⟨rfl, rfl⟩ := hr
          have e1 : tk_at1 tc n q = (tk_k (tc q), q, q + 1, 0) := by
            unfold tk_at1
            rw [el, ed]; rfl
          have ek : tk_k (tc q) = if tk_mk (tc q) = true then tc q else 3 := by
            unfold tk_k
            rw [el, ed, nb]; rfl
          rw [e1, ek]
          have done : ∀ (s0 : Int32) (kd : Nat), s0 = rs_k kd → kd ≠ 1 → kd ≠ 2 → (4 ≤ kd → kd = tc q) → am_T true ya_11_token (d + 5) (fun r τ => r = none ∧ mo_KF σ τ ∧ rt_t τ (kd, q, q + 1, 0)) 249 [some (.ref (am_oid 16)), some (.int (nI (tc q)))] [.int s0, .ref (am_oid 16)] (am_sI ω' 16 8 (am_I ω' 16 7)) := fun s0 kd h1 h2 h3 h4 => by
            refine kb_11_token_249 (k := ?_)
            rw [e7, nI_1]
            refine kb_11_token_267 ⟨rfl, ((F8.sI (by rfl) _).sI (by rfl) _).sI (by rfl) _, by rw [am_I_sI, if_pos ⟨rfl, rfl⟩], ?_, ?_, fun z => absurd z h2, fun z => absurd z h3, fun z => ?_⟩
            · rw [am_I_sI, if_neg (by simp), am_I_sI, if_neg (by simp), am_I_sI, if_neg (by simp)]; exact e8
            · rw [am_I_sI, if_neg (by simp), am_I_sI, if_neg (by simp), am_I_sI, if_pos ⟨rfl, rfl⟩]; exact h1
            · rw [am_I_sI, if_neg (by simp), am_I_sI, if_pos ⟨rfl, rfl⟩]
              show nI (tc q) = nI kd
              rw [h4 z]
          cases em : tk_mk (tc q) with
          | true =>
            have hm := of_decide_eq_true (show decide (tc q = 59 ∨ tc q = 60 ∨ tc q = 61 ∨ tc q = 62 ∨ tc q = 43 ∨ tc q = 45 ∨ tc q = 42) = true from em)
            rw [if_pos rfl]
            refine kb_11_token_241 (kt := fun z => absurd z (by decide)) (kf := fun _ => kb_11_token_244 (k := done 2 (tc q) ?_ (by omega) (by omega) (fun _ => rfl)))
            unfold rs_k
            rw [if_neg (by omega), if_neg (by omega), if_neg (by omega), if_neg (by omega)]
          | false =>
            rw [if_neg (by decide)]
            exact kb_11_token_241 (kf := fun z => absurd rfl z) (kt := fun _ => kb_11_token_248 (k := done 4 3 rfl (by decide) (by decide) (fun z => absurd z (by decide))))
  refine am_enter rfl (by simp [Value.category]) (Nat.le_of_ble_eq_true rfl) ?_
  exact blanks (n - a) a σ (by omega) mo_Fm.rf h7 rfl
end TOKEN
