/-! THE REFERENCE: canRows, allRows, rows, row, shortMany -/
def rq_can (n : Nat) (en : Int32) (b : Bool) : Bool := decide (0 < n) && (!b || decide (en = 1))
def rq_R (N K : Nat) (tb : Nat → Int32) (fl : Nat → Nat → Bool) (nx : Nat → Nat → Option Nat) (Rs : List (List Nat)) (b : Bool) : Nat → List Nat := if b = true then sw_R N K tb fl nx Rs else rl_f Rs
def rq_O (N K : Nat) (tb : Nat → Int32) (fl : Nat → Nat → Bool) (nx : Nat → Nat → Option Nat) (Rs : List (List Nat)) (b : Bool) : Nat → Bool := if b = true then sw_O N K tb fl nx Rs else fun _ => false
def rq_L (N K : Nat) (tb : Nat → Int32) (fl : Nat → Nat → Bool) (nx : Nat → Nat → Option Nat) (Rs : List (List Nat)) (b : Bool) : List (List Nat) := if b = true then sw_L N K tb fl nx Rs else Rs
def rq_rows (n : Nat) (en : Int32) (L : List (List Nat)) (x : Int32) (b : Bool) : Int32 := if x < 0 ∨ ¬ x ≤ 1 then -1 else if rq_can n en b = true then (if x = 0 then nI L.length else nI (rl_sum L)) else -2
def rq_row (n : Nat) (en : Int32) (L : List (List Nat)) (x1 x2 : Int32) (b : Bool) : Int32 := if x1 < 0 ∨ x2 < 0 ∨ rq_can n en b = false then -1 else rl_at L x1.toNatClampNeg x2.toNatClampNeg
theorem sh_kl_all (Rs : List (List Nat)) : sh_kl (fun _ => false) (rl_f Rs) Rs.length = Rs := by
  have h : ∀ (b a : List (List Nat)), Rs = a ++ b → sh_kl (fun _ => false) (rl_f Rs) a.length = a → sh_kl (fun _ => false) (rl_f Rs) Rs.length = Rs := by
    intro b
    induction b with
    | nil => intro a h1 h2; rw [List.append_nil] at h1; rw [h1] at h2 ⊢; exact h2
    | cons c b ih =>
      intro a h1 h2
      refine ih (a ++ [c]) (by rw [List.append_assoc]; exact h1) ?_
      have e : rl_f Rs a.length = c := by rw [h1]; exact rl_f_mid _ _ _
      rw [List.length_append]
      show sh_kl (fun _ => false) (rl_f Rs) a.length ++ (if false = true then [] else [rl_f Rs a.length]) = _
      rw [h2, e]; rfl
  exact h Rs [] rfl rfl
theorem rq_L_eq {N K : Nat} {tb : Nat → Int32} {fl : Nat → Nat → Bool} {nx : Nat → Nat → Option Nat} {Rs : List (List Nat)} {b : Bool} : sh_kl (rq_O N K tb fl nx Rs b) (rq_R N K tb fl nx Rs b) Rs.length = rq_L N K tb fl nx Rs b := by
  cases b
  · exact sh_kl_all Rs
  · rfl
def mr_A (τ : am_St) (r : Nat) (R : Nat → List Nat) (O : Nat → Bool) : Prop := am_I τ 16 42 = nI r ∧ (∀ k, k < r → mr_Rw τ k (R k)) ∧ ∀ k, k < r → am_A τ 16 44 k = am_bI (O k)
abbrev mr_AF := mo_Fr [0, 42] [38, 39, 40, 41, 43, 44, 45]
section MRQ
variable {d N K T n r : Nat} {tb : Nat → Int32} {fl : Nat → Nat → Bool} {nx : Nat → Nat → Option Nat} {nd : Nat → Nat → Int32} {σ : am_St} {R : Nat → List Nat} {O : Nat → Bool}
theorem sp_11_canRows {en : Int32} (h2 : am_A σ 16 25 2 = nI n) (hn : n ≤ 400) (h4 : am_A σ 16 25 4 = en) (b : Bool) : am_C true ya_11_canRows d [.ref (am_oid 16), .int (am_bI b)] σ (fun r τ => τ = σ ∧ r = some (.int (am_bI (rq_can n en b)))) := by
  refine am_enter rfl (by simp [Value.category]) (Nat.le_of_ble_eq_true rfl) ?_
  refine kb_11_canRows_0 (kt := fun z => ?_) (kf := fun z => ?_)
  · rw [h2, ← nI_0, nI_leI (by omega) (by omega)] at z
    refine kb_11_canRows_27 (k := kb_11_canRows_28 (hb0 := rfl) (hq := ⟨rfl, ?_⟩))
    unfold rq_can; rw [decide_eq_false (by omega)]; rfl
  · rw [h2, ← nI_0, nI_leI (by omega) (by omega)] at z
    have e : rq_can n en b = (!b || decide (en = 1)) := by unfold rq_can; rw [decide_eq_true (by omega)]; rfl
    rw [e]
    cases b with
    | false => exact kb_11_canRows_9 (kt := fun _ => kb_11_canRows_23 (k := kb_11_canRows_28 (hb0 := rfl) (hq := ⟨rfl, rfl⟩))) (kf := fun z => absurd rfl z)
    | true =>
      refine kb_11_canRows_9 (kt := fun z => absurd z (by decide)) (kf := fun _ => ?_)
      refine kb_11_canRows_13 (kt := fun y => ?_) (kf := fun y => ?_)
      · rw [h4] at y
        exact kb_11_canRows_27 (k := kb_11_canRows_28 (hb0 := rfl) (hq := ⟨rfl, by rw [decide_eq_false y]; rfl⟩))
      · rw [h4] at y
        exact kb_11_canRows_23 (k := kb_11_canRows_28 (hb0 := rfl) (hq := ⟨rfl, by rw [decide_eq_true y]; rfl⟩))
theorem sp_11_allRows (hW : mo_Wo σ N K T tb fl nx) (hn : mo_Nd (am_A σ 16 25) n nd) (hs : tr_sb nd 17 [] (-1) 0 n) (b : Bool) : am_C true ya_11_allRows (d + 18) [.ref (am_oid 16), .int (am_bI b)] σ (fun r τ => r = none ∧ mr_AF σ τ ∧ mr_A τ (tr_rw nd 17 [] 0).length (rq_R N K tb fl nx (tr_rw nd 17 [] 0) b) (rq_O N K tb fl nx (tr_rw nd 17 [] 0) b)) := by
  have hn4 := hn.1
  have ok0 : rw_ok [] := ⟨fun c hc => (by cases hc), List.Pairwise.nil⟩
  obtain ⟨s1, pt, -, s3, s4⟩ := tr_sb_pt 17 [] (-1) 0 n hs hn4 ok0 (by decide)
  obtain ⟨Rs, hRs⟩ : ∃ Rs, Rs = tr_rw nd 17 [] 0 := ⟨_, rfl⟩
  have h200 : Rs.length ≤ 200 := by rw [hRs]; omega
  have hRok : ∀ k, rw_ok (rl_f Rs k) ∧ (rl_f Rs k).length ≤ 16 := by rw [hRs, ← s4]; exact rl_f_ok (tr_rl_ok s3 _ (by omega))
  rw [← hRs]
  generalize hQ : (fun (r : Option Value) (τ : am_St) => r = none ∧ mr_AF σ τ ∧ mr_A τ Rs.length (rq_R N K tb fl nx Rs b) (rq_O N K tb fl nx Rs b)) = Q
  refine am_enter rfl (by simp [Value.category]) (Nat.le_of_ble_eq_true rfl) ?_
  refine kb_11_allRows_0 (hC := sp_11_laysRows 17 [] (-1) 0 n 0 (am_sI σ 16 42 0) hs (Nat.le_refl _) hn ok0 (by decide) (fun z hz => absurd hz (Nat.not_lt_zero z)) (by rw [am_I_sI, if_pos ⟨rfl, rfl⟩]; rfl) (by rw [← hRs]; omega)) (k := fun r τ hr => ?_)
  obtain ⟨rfl, F1, I1, -, R1, -⟩ := hr
  rw [← hRs, Nat.zero_add] at I1
  rw [← hRs] at R1
  have F0 : mr_AF σ τ := (mo_Fr.rf.sI (by rfl) 0 : mr_AF σ (am_sI σ 16 42 0)).tr (F1.le (fun k hk => by simp at hk ⊢; exact hk.2) (fun k hk => by simp at hk ⊢; exact ⟨hk.1, hk.2.1, hk.2.2.1, hk.2.2.2.1, hk.2.2.2.2.1⟩))
  have loop : ∀ (j k : Nat), k + j = Rs.length → ∀ G : Nat → Int32, (∀ z, z < k → G z = 0) → am_T true ya_11_allRows (d + 18) Q 12 [some (.ref (am_oid 16)), some (.int (am_bI b)), some (.int (nI k))] [] (am_sA τ 16 44 G) := by
    intro j
    induction j with
    | zero =>
      intro k hk G hG
      have : k = Rs.length := by omega
      subst this
      have FG : mr_AF σ (am_sA τ 16 44 G) := F0.sA (by rfl) G
      have rwG : ∀ p, p < Rs.length → mr_Rw (am_sA τ 16 44 G) p (rl_f Rs p) := fun p hp => by
        have := R1 p hp
        rw [Nat.zero_add] at this
        exact mr_Rw.same this (by rw [am_A_sA, if_neg (by simp)]) (by rw [am_A_sA, if_neg (by simp)]) (by rw [am_A_sA, if_neg (by simp)]) (by rw [am_A_sA, if_neg (by simp)])
      have oG : ∀ p, p < Rs.length → am_A (am_sA τ 16 44 G) 16 44 p = 0 := fun p hp => by rw [am_A_sA, if_pos ⟨rfl, rfl⟩]; exact hG p hp
      refine kb_11_allRows_12 (kt := fun _ => ?_) (kf := fun z => absurd (by show am_I τ 16 42 ≤ _; rw [I1]; exact nI_le (by omega) (by omega)) z)
      cases b with
      | false =>
        refine kb_11_allRows_33 (kt := fun _ => kb_11_allRows_41 (hq := ?_)) (kf := fun z => absurd rfl z)
        rw [← hQ]
        exact ⟨rfl, FG, I1, rwG, oG⟩
      | true =>
        refine kb_11_allRows_33 (kt := fun z => absurd z (by decide)) (kf := fun _ => ?_)
        have hWG : mo_Wo (am_sA τ 16 44 G) N K T tb fl nx := hW.same FG rfl (fun k hk => by rcases hk with rfl | rfl | rfl | rfl | rfl | rfl | rfl <;> rfl)
        refine kb_11_allRows_37 (hC := sp_11_shortens (d := d + 15) hWG I1 h200 rwG oG hRok) (k := fun r τ2 hr => ?_)
        obtain ⟨rfl, F2, R2, O2⟩ := hr
        refine kb_11_allRows_41 (hq := ?_)
        rw [← hQ]
        exact ⟨rfl, FG.tr (F2.le (fun k hk => rfl) (fun k hk => by simp at hk ⊢; exact ⟨hk.1, hk.2.1, hk.2.2.1, hk.2.2.2.1, hk.2.2.2.2.2⟩)), by rw [F2.1 42 rfl]; exact I1, R2, O2⟩
    | succ j ih =>
      intro k hk G hG
      refine kb_11_allRows_12 (kt := fun z => absurd z (by show ¬ am_I τ 16 42 ≤ _; rw [I1]; exact nI_ge (by omega) (by omega))) (kf := fun _ => ?_)
      refine kb_11_allRows_20 (hi0 := vp_in_nI (by omega) (by omega)) (k := ?_)
      rw [nI_1, nI_clamp (show k < 2 ^ 31 by omega), am_sA_sA, am_A_sA, if_pos ⟨rfl, rfl⟩, show vp_nar .boolean 0 = 0 from vp_nar_bI false]
      refine ih (k + 1) (by omega) _ (fun z hz => ?_)
      by_cases c : z = k
      · rw [c, upd_s]
      · rw [upd_n c]; exact hG z (by omega)
  refine kb_11_allRows_10 (k := ?_)
  have := loop Rs.length 0 (by omega) (am_A τ 16 44) (fun z hz => absurd hz (Nat.not_lt_zero z))
  rw [am_sA_id, nI_0] at this
  exact this
theorem sp_11_rows {en : Int32} (hW : mo_Wo σ N K T tb fl nx) (hn : mo_Nd (am_A σ 16 25) n nd) (h4 : am_A σ 16 25 4 = en) (hs : 0 < n → tr_sb nd 17 [] (-1) 0 n) (x : Int32) (b : Bool) : am_C true ya_11_rows (d + 19) [.ref (am_oid 16), .int x, .int (am_bI b)] σ (fun r τ => r = some (.int (rq_rows n en (rq_L N K tb fl nx (tr_rw nd 17 [] 0) b) x b)) ∧ mr_AF σ τ) := by
  have hn4 := hn.1
  obtain ⟨Rs, hRs⟩ : ∃ Rs, Rs = tr_rw nd 17 [] 0 := ⟨_, rfl⟩
  rw [← hRs]
  obtain ⟨L, hL⟩ : ∃ L, L = rq_L N K tb fl nx Rs b := ⟨_, rfl⟩
  rw [← hL]
  have F0 : mr_AF σ (am_sI σ 16 0 0) := mo_Fr.rf.sI (by rfl) 0
  refine am_enter rfl (by simp [Value.category]) (Nat.le_of_ble_eq_true rfl) ?_
  have out : (x < 0 ∨ ¬ x ≤ 1) → ∀ a2 a3 a4 : Option Value, am_T true ya_11_rows (d + 19) (fun r τ => r = some (.int (rq_rows n en L x b)) ∧ mr_AF σ τ) 14 [some (.ref (am_oid 16)), some (.int x), a2, a3, a4] [] (am_sI σ 16 0 0) := fun h a2 a3 a4 => kb_11_rows_14 ⟨by unfold rq_rows; rw [if_pos h], F0⟩
  refine kb_11_rows_0 (kt := fun z => out (Or.inl z) _ _ _) (kf := fun z0 => ?_)
  refine kb_11_rows_9 (kt := fun z1 => ?_) (kf := fun z => out (Or.inr z) _ _ _)
  have eV : rq_rows n en L x b = if rq_can n en b = true then (if x = 0 then nI L.length else nI (rl_sum L)) else -2 := by unfold rq_rows; rw [if_neg (fun z => z.elim z0 (fun z => z z1))]
  rw [eV]
  refine kb_11_rows_16 (hC := sp_11_canRows (σ := am_sI σ 16 0 0) hn.2.1 hn4 h4 b) (k := fun r τ hr => ?_)
  obtain ⟨rfl, rfl⟩ := hr
  refine kb_11_rows_21 (kt := fun z => ?_) (kf := fun z => kb_11_rows_24 ⟨?_, F0⟩)
  rotate_left
  · rw [am_bI_0] at z; rw [if_neg (by rw [z]; decide)]
  rw [am_bI_0] at z
  have zt : rq_can n en b = true := by simpa using z
  rw [if_pos zt]
  have hn0 : 0 < n := by unfold rq_can at zt; simp at zt; exact zt.1
  refine kb_11_rows_27 (hC := sp_11_allRows (σ := am_sI σ 16 0 0) (d := d) (hW.s0 0) hn (hs hn0) b) (k := fun r τ hr => ?_)
  obtain ⟨rfl, F1, I1, R1, O1⟩ := hr
  rw [← hRs] at I1 R1 O1
  have FF := F0.tr F1
  obtain ⟨R, hR⟩ : ∃ R, R = rq_R N K tb fl nx Rs b := ⟨_, rfl⟩
  obtain ⟨O, hO⟩ : ∃ O, O = rq_O N K tb fl nx Rs b := ⟨_, rfl⟩
  rw [← hR] at R1
  rw [← hO] at O1
  have hLk : sh_kl O R Rs.length = L := by rw [hO, hR, hL]; exact rq_L_eq
  have s200 : Rs.length ≤ 200 := by
    obtain ⟨s1, -⟩ := tr_sb_pt 17 [] (-1) 0 n (hs hn0) hn4 ⟨fun c hc => (by cases hc), List.Pairwise.nil⟩ (by decide)
    rw [hRs]; omega
  have loop : ∀ (j k : Nat), k + j = Rs.length → am_T true ya_11_rows (d + 19) (fun r τ => r = some (.int (if x = 0 then nI L.length else nI (rl_sum L))) ∧ mr_AF σ τ) 37 [some (.ref (am_oid 16)), some (.int x), some (.int (am_bI b)), some (.int (if x = 0 then nI (sh_kl O R k).length else nI (rl_sum (sh_kl O R k)))), some (.int (nI k))] [] τ := by
    intro j
    induction j with
    | zero =>
      intro k hk
      have : k = Rs.length := by omega
      subst this
      rw [hLk]
      exact kb_11_rows_37 (kt := fun _ => kb_11_rows_84 ⟨rfl, FF⟩) (kf := fun z => absurd (by rw [I1]; exact nI_le (by omega) (by omega)) z)
    | succ j ih =>
      intro k hk
      have vk : vp_in (nI k) 202 := vp_in_nI (by omega) (by omega)
      have ck : (nI k).toNatClampNeg = k := nI_clamp (by omega)
      have next := ih (k + 1) (by omega)
      have e : sh_kl O R (k + 1) = sh_kl O R k ++ (if O k = true then [] else [R k]) := rfl
      refine kb_11_rows_37 (kt := fun z => absurd z (by rw [I1]; exact nI_ge (by omega) (by omega))) (kf := fun _ => ?_)
      refine kb_11_rows_46 (hi0 := vk) (kt := fun y => ?_) (kf := fun y => ?_)
      · rw [ck, O1 k (by omega), am_bI_0] at y
        have e2 : sh_kl O R (k + 1) = sh_kl O R k ++ [R k] := by rw [e, y]; rfl
        rw [e2, List.length_append, rl_sum_app] at next
        refine kb_11_rows_61 (kt := fun w => ?_) (kf := fun w => ?_)
        · simp only [if_neg w] at next ⊢
          refine kb_11_rows_69 (hi0 := vk) (k := kb_11_rows_76 (k := ?_))
          rw [ck, (R1 k (by omega)).1, nI_add, nI_1]
          exact next
        · simp only [if_pos w] at next ⊢
          refine kb_11_rows_65 (k := kb_11_rows_76 (k := ?_))
          rw [nI_1, nI_1]
          exact next
      · rw [ck, O1 k (by omega), am_bI_0] at y
        have y' : O k = true := by simpa using y
        rw [e, y', if_pos rfl, List.append_nil] at next
        refine kb_11_rows_57 (k := kb_11_rows_76 (k := ?_))
        rw [Int32.add_zero, nI_1]
        exact next
  refine kb_11_rows_32 (k := ?_)
  have := loop Rs.length 0 (by omega)
  have e0 : (if x = 0 then nI (sh_kl O R 0).length else nI (rl_sum (sh_kl O R 0))) = 0 := by
    by_cases c : x = 0
    · rw [if_pos c]; rfl
    · rw [if_neg c]; rfl
  rw [e0, nI_0] at this
  exact this
theorem sp_11_row {en : Int32} (hW : mo_Wo σ N K T tb fl nx) (hn : mo_Nd (am_A σ 16 25) n nd) (h4 : am_A σ 16 25 4 = en) (hs : 0 < n → tr_sb nd 17 [] (-1) 0 n) (x1 x2 : Int32) (b : Bool) : am_C true ya_11_row (d + 19) [.ref (am_oid 16), .int x1, .int x2, .int (am_bI b)] σ (fun r τ => r = some (.int (rq_row n en (rq_L N K tb fl nx (tr_rw nd 17 [] 0) b) x1 x2 b)) ∧ mr_AF σ τ) := by
  have hn4 := hn.1
  obtain ⟨Rs, hRs⟩ : ∃ Rs, Rs = tr_rw nd 17 [] 0 := ⟨_, rfl⟩
  rw [← hRs]
  obtain ⟨L, hL⟩ : ∃ L, L = rq_L N K tb fl nx Rs b := ⟨_, rfl⟩
  rw [← hL]
  have F0 : mr_AF σ (am_sI σ 16 0 0) := mo_Fr.rf.sI (by rfl) 0
  refine am_enter rfl (by simp [Value.category]) (Nat.le_of_ble_eq_true rfl) ?_
  have out : (x1 < 0 ∨ x2 < 0 ∨ rq_can n en b = false) → ∀ a3 a4 a5 : Option Value, am_T true ya_11_row (d + 19) (fun r τ => r = some (.int (rq_row n en L x1 x2 b)) ∧ mr_AF σ τ) 21 [some (.ref (am_oid 16)), some (.int x1), some (.int x2), a3, a4, a5] [] (am_sI σ 16 0 0) := fun h a3 a4 a5 => kb_11_row_21 ⟨by unfold rq_row; rw [if_pos h], F0⟩
  refine kb_11_row_0 (kt := fun z => out (Or.inl z) _ _ _) (kf := fun z1 => ?_)
  refine kb_11_row_9 (kt := fun z => out (Or.inr (Or.inl z)) _ _ _) (kf := fun z2 => ?_)
  refine kb_11_row_13 (hC := sp_11_canRows (σ := am_sI σ 16 0 0) hn.2.1 hn4 h4 b) (k := fun r τ hr => ?_)
  obtain ⟨rfl, rfl⟩ := hr
  refine kb_11_row_18 (kt := fun z => ?_) (kf := fun z => out (Or.inr (Or.inr (by rw [am_bI_0] at z; exact z))) _ _ _)
  rw [am_bI_0] at z
  have zt : rq_can n en b = true := by simpa using z
  have hn0 : 0 < n := by unfold rq_can at zt; simp at zt; exact zt.1
  obtain ⟨k0, hk0, rfl⟩ := nI_of z1
  obtain ⟨i0, hi0, rfl⟩ := nI_of z2
  have eV : rq_row n en L (nI k0) (nI i0) b = rl_at L k0 i0 := by
    unfold rq_row
    rw [if_neg (fun h => by rcases h with h | h | h; exact z1 h; exact z2 h; rw [zt] at h; cases h), nI_clamp hk0, nI_clamp hi0]
  rw [eV]
  refine kb_11_row_23 (hC := sp_11_allRows (σ := am_sI σ 16 0 0) (d := d) (hW.s0 0) hn (hs hn0) b) (k := fun r τ hr => ?_)
  obtain ⟨rfl, F1, I1, R1, O1⟩ := hr
  rw [← hRs] at I1 R1 O1
  have FF := F0.tr F1
  obtain ⟨R, hR⟩ : ∃ R, R = rq_R N K tb fl nx Rs b := ⟨_, rfl⟩
  obtain ⟨O, hO⟩ : ∃ O, O = rq_O N K tb fl nx Rs b := ⟨_, rfl⟩
  obtain ⟨s1, pt, -, s3, s4⟩ := tr_sb_pt 17 [] (-1) 0 n (hs hn0) hn4 ⟨fun c hc => (by cases hc), List.Pairwise.nil⟩ (by decide)
  have s200 : Rs.length ≤ 200 := by rw [hRs]; omega
  have hRok : ∀ k, (rq_R N K tb fl nx Rs b k).length ≤ 16 := fun k => by
    have h0 : ∀ k, rw_ok (rl_f Rs k) ∧ (rl_f Rs k).length ≤ 16 := by rw [hRs, ← s4]; exact rl_f_ok (tr_rl_ok s3 _ (by omega))
    unfold rq_R
    cases b
    · exact (h0 k).2
    · exact (sh_ts_ok h0 _ k).2
  rw [← hR] at R1 hRok
  rw [← hO] at O1
  have hLk : sh_kl O R Rs.length = L := by rw [hO, hR, hL]; exact rq_L_eq
  have pre : ∀ j k, k + j = Rs.length → ∃ tl, L = sh_kl O R k ++ tl := by
    intro j
    induction j with
    | zero => intro k hk; rw [show k = Rs.length by omega, hLk]; exact ⟨[], (List.append_nil _).symm⟩
    | succ j ih =>
      intro k hk
      obtain ⟨tl, h⟩ := ih (k + 1) (by omega)
      exact ⟨_, by rw [h]; show (sh_kl O R k ++ _) ++ tl = _; rw [List.append_assoc]⟩
  have loop : ∀ (j k : Nat), k + j = Rs.length → (sh_kl O R k).length ≤ k0 → am_T true ya_11_row (d + 19) (fun r τ => r = some (.int (rl_at L k0 i0)) ∧ mr_AF σ τ) 34 [some (.ref (am_oid 16)), some (.int (nI k0)), some (.int (nI i0)), some (.int (am_bI b)), some (.int (nI (k0 - (sh_kl O R k).length))), some (.int (nI k))] [] τ := by
    intro j
    induction j with
    | zero =>
      intro k hk hl
      have : k = Rs.length := by omega
      subst this
      rw [hLk] at hl
      exact kb_11_row_34 (kt := fun _ => kb_11_row_99 ⟨by rw [rl_at_ge hl], FF⟩) (kf := fun z => absurd (by rw [I1]; exact nI_le (by omega) (by omega)) z)
    | succ j ih =>
      intro k hk hl
      have vk : vp_in (nI k) 202 := vp_in_nI (by omega) (by omega)
      have ck : (nI k).toNatClampNeg = k := nI_clamp (by omega)
      have next := ih (k + 1) (by omega)
      have e : sh_kl O R (k + 1) = sh_kl O R k ++ (if O k = true then [] else [R k]) := rfl
      refine kb_11_row_34 (kt := fun z => absurd z (by rw [I1]; exact nI_ge (by omega) (by omega))) (kf := fun _ => ?_)
      refine kb_11_row_43 (hi0 := vk) (kt := fun y => ?_) (kf := fun y => ?_)
      · rw [ck, O1 k (by omega), am_bI_0] at y
        rw [y, if_neg (by decide)] at e
        obtain ⟨r1, r2, -, -⟩ := R1 k (by omega)
        have hl16 := hRok k
        refine kb_11_row_56 (kt := fun w => ?_) (kf := fun w => ?_)
        · rw [nI_eq0 (by omega)] at w
          rw [e, List.length_append] at next
          have e1 : nI (k0 - (sh_kl O R k).length) + -1 = nI (k0 - ((sh_kl O R k).length + [R k].length)) := by
            rw [← nI_dec (k0 - ((sh_kl O R k).length + [R k].length))]
            congr 2
            simp; omega
          refine kb_11_row_90 (k := kb_11_row_93 (k := ?_))
          rw [nI_1, e1]
          exact next (by simp; omega)
        · rw [nI_eq0 (by omega)] at w
          have hkl : k0 = (sh_kl O R k).length := by omega
          obtain ⟨tl, htl⟩ := pre j (k + 1) (by omega)
          have eA : rl_at L k0 i0 = rl_e (R k) i0 := by
            rw [htl, e, hkl, List.append_assoc]; exact rl_at_mid _ _ _ _
          rw [eA]
          refine kb_11_row_61 (hi0 := vk) (kt := fun u => ?_) (kf := fun u => ?_)
          · rw [ck, r1, nI_leI (by omega) hi0] at u
            exact kb_11_row_87 (k := kb_11_row_89 ⟨by rw [rl_e_ge u], FF⟩)
          · rw [ck, r1, nI_leI (by omega) hi0] at u
            have ix : (16 : Int32) * nI k + nI i0 = nI (16 * k + i0) := by rw [show (16 : Int32) = nI 16 from rfl, nI_mul, nI_add]
            refine kb_11_row_72 (hi0 := by rw [ix]; exact vp_in_nI (by omega) (by omega)) (k := kb_11_row_89 ⟨?_, FF⟩)
            rw [ix, nI_clamp (by omega), r2 i0 (by omega)]
      · rw [ck, O1 k (by omega), am_bI_0] at y
        have y' : O k = true := by simpa using y
        rw [e, y', if_pos rfl, List.append_nil] at next
        refine kb_11_row_53 (k := kb_11_row_93 (k := ?_))
        rw [nI_1]
        exact next hl
  refine kb_11_row_28 (k := ?_)
  have := loop Rs.length 0 (by omega) (Nat.zero_le _)
  rw [show (sh_kl O R 0).length = 0 from rfl, nI_0] at this
  exact this
theorem sp_11_shortMany {en : Int32} (hW : mo_Wo σ N K T tb fl nx) (hn : mo_Nd (am_A σ 16 25) n nd) (h4 : am_A σ 16 25 4 = en) (hs : 0 < n → tr_sb nd 17 [] (-1) 0 n) : am_C true ya_11_shortMany (d + 19) [.ref (am_oid 16)] σ (fun r τ => r = some (.int (if rq_can n en true = true then nI (sw_n N K tb fl nx (tr_rw nd 17 [] 0)) else -2)) ∧ mr_AF σ τ) := by
  have hn4 := hn.1
  have F0 : mr_AF σ (am_sI σ 16 0 0) := mo_Fr.rf.sI (by rfl) 0
  refine am_enter rfl (by simp [Value.category]) (Nat.le_of_ble_eq_true rfl) ?_
  refine kb_11_shortMany_0 (hC := sp_11_canRows (σ := am_sI σ 16 0 0) hn.2.1 hn4 h4 true) (k := fun r τ hr => ?_)
  obtain ⟨rfl, rfl⟩ := hr
  refine kb_11_shortMany_10 (kt := fun z => ?_) (kf := fun z => kb_11_shortMany_13 ⟨?_, F0⟩)
  rotate_left
  · rw [am_bI_0] at z; rw [if_neg (by rw [z]; decide)]
  rw [am_bI_0] at z
  have zt : rq_can n en true = true := by simpa using z
  rw [if_pos zt]
  have hn0 : 0 < n := by unfold rq_can at zt; simp at zt; exact zt.1
  obtain ⟨s1, pt, -, s3, s4⟩ := tr_sb_pt 17 [] (-1) 0 n (hs hn0) hn4 ⟨fun c hc => (by cases hc), List.Pairwise.nil⟩ (by decide)
  obtain ⟨Rs, hRs⟩ : ∃ Rs, Rs = tr_rw nd 17 [] 0 := ⟨_, rfl⟩
  have s200 : Rs.length ≤ 200 := by rw [hRs]; omega
  have h0 : ∀ k, rw_ok (rl_f Rs k) ∧ (rl_f Rs k).length ≤ 16 := by rw [hRs, ← s4]; exact rl_f_ok (tr_rl_ok s3 _ (by omega))
  refine kb_11_shortMany_16 (hC := sp_11_allRows (σ := am_sI σ 16 0 0) (d := d) (hW.s0 0) hn (hs hn0) true) (k := fun r τ hr => ?_)
  obtain ⟨rfl, F1, I1, R1, O1⟩ := hr
  rw [← hRs] at I1 R1 O1 ⊢
  have FF := F0.tr F1
  have hWτ : mo_Wo τ N K T tb fl nx := hW.same FF rfl (fun k hk => by rcases hk with rfl | rfl | rfl | rfl | rfl | rfl | rfl <;> rfl)
  have M : mr_M τ Rs.length (sw_R N K tb fl nx Rs) (sw_O N K tb fl nx Rs) := ⟨I1, s200, fun k hk => ⟨(R1 k hk).2.2.1, (R1 k hk).2.2.2, O1 k hk, (sh_ts_ok h0 _ k).1⟩⟩
  obtain ⟨p, hp⟩ : ∃ p : Nat → Bool, p = fun s => rs_in (sw_R N K tb fl nx Rs) (sw_O N K tb fl nx Rs) Rs.length (tb s) := ⟨_, rfl⟩
  have es : sw_n N K tb fl nx Rs = am_cn p N := by rw [hp]; rfl
  rw [es]
  have hN := hW.1
  have w4 := hWτ.2.2.2.1
  have loop : ∀ (j i : Nat), i + j = N → am_T true ya_11_shortMany (d + 19) (fun r τ => r = some (.int (nI (am_cn p N))) ∧ mr_AF σ τ) 25 [some (.ref (am_oid 16)), some (.int (nI (am_cn p i))), some (.int (nI i))] [] τ := by
    intro j
    induction j with
    | zero =>
      intro i hi
      have : i = N := by omega
      subst this
      exact kb_11_shortMany_25 (kt := fun _ => kb_11_shortMany_55 ⟨rfl, FF⟩) (kf := fun z => absurd (by rw [w4]; exact nI_le (by omega) (by omega)) z)
    | succ j ih =>
      intro i hi
      have next := ih (i + 1) (by omega)
      rw [← nI_cn] at next
      refine kb_11_shortMany_25 (kt := fun z => absurd z (by rw [w4]; exact nI_ge (by omega) (by omega))) (kf := fun _ => ?_)
      refine kb_11_shortMany_33 (hC := sp_11_isInRows hWτ M (show i < N by omega)) (k := fun r τ' hr => ?_)
      obtain ⟨hτ', rfl⟩ := hr
      subst hτ'
      have ep : rs_in (sw_R N K tb fl nx Rs) (sw_O N K tb fl nx Rs) Rs.length (tb i) = p i := by rw [hp]
      rw [ep]
      cases hc : p i with
      | false =>
        rw [hc] at next
        refine kb_11_shortMany_39 (kt := fun _ => kb_11_shortMany_46 (k := kb_11_shortMany_47 (k := ?_))) (kf := fun z => absurd rfl z)
        rw [nI_1 i]; exact next
      | true =>
        rw [hc] at next
        refine kb_11_shortMany_39 (kt := fun z => absurd z (by decide)) (kf := fun _ => kb_11_shortMany_42 (k := kb_11_shortMany_47 (k := ?_)))
        rw [nI_1 i]; exact next
  refine kb_11_shortMany_21 (k := ?_)
  have := loop N 0 (by omega)
  rw [show am_cn p 0 = 0 from rfl, nI_0] at this
  exact this
end MRQ
