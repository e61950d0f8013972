/-! the class's Shortener: bitOf, takeRow, takeRows, addCover, isLeft, proves -/
theorem am_On.rf {t : Nat} {σ : am_St} : am_On t σ σ := ⟨fun _ _ _ => rfl, fun _ _ _ => rfl, rfl⟩
theorem am_On.tr {t : Nat} {σ τ υ : am_St} (h : am_On t σ τ) (h' : am_On t τ υ) : am_On t σ υ := ⟨fun o k ho => (h'.1 o k ho).trans (h.1 o k ho), fun o k ho => (h'.2.1 o k ho).trans (h.2.1 o k ho), h'.2.2.trans h.2.2⟩
theorem am_On.sA {t : Nat} {σ τ : am_St} (h : am_On t σ τ) (k : Nat) (f : Nat → Int32) : am_On t σ (am_sA τ t k f) := ⟨h.1, fun o q ho => by rw [am_A_sA, if_neg (fun z => ho z.2)]; exact h.2.1 o q ho, h.2.2⟩
theorem am_On.sI {t : Nat} {σ τ : am_St} (h : am_On t σ τ) (k : Nat) (x : Int32) : am_On t σ (am_sI τ t k x) := ⟨fun o q ho => by rw [am_I_sI, if_neg (fun z => ho z.2)]; exact h.1 o q ho, h.2.1, h.2.2⟩
theorem am_On.wo {t N K T : Nat} {tb : Nat → Int32} {fl : Nat → Nat → Bool} {nx : Nat → Nat → Option Nat} {σ τ : am_St} (h : am_On t σ τ) (ht : t ≠ 4) (hW : am_Wo σ N K T tb fl nx) : am_Wo τ N K T tb fl nx := hW.same (fun k => h.1 4 k (fun z => ht z.symm)) (fun k => h.2.1 4 k (fun z => ht z.symm))
theorem am_On.tre {t o n : Nat} {nd : Nat → Nat → Int32} {σ τ : am_St} (h : am_On o σ τ) (ho : am_k false o ≠ 8) (hT : am_Tr σ t n nd) : am_Tr τ t n nd := by
  have : t ≠ o := fun z => ho (by rw [← z]; exact hT.1)
  exact hT.same (h.1 t 0 this) (fun k => h.2.1 t k this)
def sh_Rw (σ : am_St) (k : Nat) (row : List Nat) : Prop := am_A σ 14 3 k = nI row.length ∧ (∀ i, i < row.length → am_A σ 14 4 (16 * k + i) = rl_e row i) ∧ am_A σ 14 5 k = rw_m rw_a row ∧ am_A σ 14 6 k = rw_m rw_g row
theorem nI_100 : (100 : Int32) = nI 100 := by decide
theorem rl_e_in {row : List Nat} {i : Nat} (h : i < row.length) : rl_e row i = nI row[i] := by unfold rl_e; rw [List.getElem?_eq_getElem h]
theorem rl_e_app {a b : List Nat} {i : Nat} (h : i < a.length) : rl_e (a ++ b) i = rl_e a i := by unfold rl_e; rw [List.getElem?_append_left h]
theorem rl_e_cons {c : Nat} {b : List Nat} {i : Nat} : rl_e (c :: b) (i + 1) = rl_e b i := by unfold rl_e; rw [List.getElem?_cons_succ]
section SHC
variable {d N K T t n : Nat} {tb : Nat → Int32} {fl : Nat → Nat → Bool} {nx : Nat → Nat → Option Nat} {nd : Nat → Nat → Int32} {pt : Nat → List Nat} {σ : am_St}
theorem sp_6_bitOf {c : Nat} (hc : c < 200) : am_C false ya_6_bitOf d [.int (nI c)] σ (fun r τ => τ = σ ∧ r = some (.int (1 <<< (nI (c % 100) &&& 31)))) := by
  refine am_enter rfl (by simp [Value.category]) (Nat.le_of_ble_eq_true rfl) ?_
  by_cases h : c < 100
  · refine kb_6_bitOf_0 (kt := fun _ => kb_6_bitOf_14 (k := kb_6_bitOf_15 ⟨rfl, ?_⟩)) (kf := fun z => absurd ?_ z)
    · rw [Nat.mod_eq_of_lt h]
    · rw [nI_100]; exact nI_lt h (by omega)
  · refine kb_6_bitOf_0 (kt := fun z => absurd z ?_) (kf := fun _ => kb_6_bitOf_7 (k := kb_6_bitOf_15 ⟨rfl, ?_⟩))
    · rw [nI_100]; exact nI_nlt (by omega) (by omega)
    · rw [nI_100, nI_sub (by omega), show c % 100 = c - 100 by omega]
theorem sp_6_takeRow (h : am_Tr σ t n nd) (hp : tr_pt nd pt 0 n) (h0 : pt 0 = []) {j k : Nat} (hj : j < n) (hk : k < 200) (hr : am_I σ 14 1 = nI k) : am_C false ya_6_takeRow (d + 1) [.ref (am_oid 14), .ref (am_oid t), .int (nI j)] σ (fun r τ => r = none ∧ am_On 14 σ τ ∧ (∀ q, am_I τ 14 q = am_I σ 14 q) ∧ am_A τ 14 7 = am_A σ 14 7 ∧ sh_Rw τ k (pt j) ∧ ∀ k' row, k' < k → row.length ≤ 16 → sh_Rw σ k' row → sh_Rw τ k' row) := by
  obtain ⟨ht, hn, hI, hA⟩ := id h
  obtain ⟨g5, g16, gok⟩ := hp.2 j (Nat.zero_le _) hj
  generalize hQ : (fun (r : Option Value) (τ : am_St) => r = none ∧ am_On 14 σ τ ∧ (∀ q, am_I τ 14 q = am_I σ 14 q) ∧ am_A τ 14 7 = am_A σ 14 7 ∧ sh_Rw τ k (pt j) ∧ ∀ k' row, k' < k → row.length ≤ 16 → sh_Rw σ k' row → sh_Rw τ k' row) = Q
  have eL : am_A σ t 6 (nI j).toNatClampNeg = nI (pt j).length := by rw [nI_clamp (by omega)]; exact (hA j hj 5 (by decide)).trans g5
  have e16 : (if (16 : Int32) < nI (pt j).length then 16 else nI (pt j).length) = nI (pt j).length := if_neg (by rw [show (16 : Int32) = nI 16 from rfl]; exact nI_nlt (by omega) (by omega))
  have loop : ∀ (b a : List Nat), pt j = a ++ b → ∀ (E : Nat → Int32), (∀ z, z < a.length → E (16 * k + z) = rl_e (pt j) z) → (∀ z, z < 16 * k → E z = am_A σ 14 4 z) → ∀ a7 : Option Value, am_T false ya_6_takeRow (d + 1) Q 21 [some (.ref (am_oid 14)), some (.ref (am_oid t)), some (.int (nI j)), some (.int (nI (pt j).length)), some (.int (rw_m rw_a a)), some (.int (rw_m rw_g a)), some (.int (nI a.length)), a7] [] (am_sA σ 14 4 E) := by
    intro b
    induction b with
    | nil =>
      intro a hab E hE1 hE2 a7
      rw [List.append_nil] at hab
      subst hab
      have ir : am_I (am_sA σ 14 4 E) 14 1 = nI k := hr
      have v : vp_in (am_I (am_sA σ 14 4 E) 14 1) 200 := by rw [ir]; exact vp_in_nI hk (by omega)
      refine kb_6_takeRow_21 (kt := fun _ => kb_6_takeRow_86 (hi0 := v) (hi1 := v) (hi2 := v) (hq := ?_)) (kf := fun z => absurd (nI_le (Nat.le_refl _) (by omega)) z)
      rw [ir, nI_clamp (show k < 2 ^ 31 by omega), ← hQ]
      refine ⟨rfl, (((am_On.rf.sA 4 E).sA 3 _).sA 5 _).sA 6 _, fun q => rfl, ?_, ⟨?_, fun i hi => ?_, ?_, ?_⟩, fun k' row hk' hrow hRw => ⟨?_, fun i hi => ?_, ?_, ?_⟩⟩
      · rw [am_A_sA, if_neg (by simp), am_A_sA, if_neg (by simp), am_A_sA, if_neg (by simp), am_A_sA, if_neg (by simp)]
      · rw [am_A_sA, if_neg (by simp), am_A_sA, if_neg (by simp), am_A_sA, if_pos ⟨rfl, rfl⟩, upd_s]
      · rw [am_A_sA, if_neg (by simp), am_A_sA, if_neg (by simp), am_A_sA, if_neg (by simp), am_A_sA, if_pos ⟨rfl, rfl⟩]; exact hE1 i hi
      · rw [am_A_sA, if_neg (by simp), am_A_sA, if_pos ⟨rfl, rfl⟩, upd_s]
      · rw [am_A_sA, if_pos ⟨rfl, rfl⟩, upd_s]
      · rw [am_A_sA, if_neg (by simp), am_A_sA, if_neg (by simp), am_A_sA, if_pos ⟨rfl, rfl⟩, upd_n (by omega), am_A_sA, if_neg (by simp)]; exact hRw.1
      · rw [am_A_sA, if_neg (by simp), am_A_sA, if_neg (by simp), am_A_sA, if_neg (by simp), am_A_sA, if_pos ⟨rfl, rfl⟩, hE2 _ (by omega)]; exact hRw.2.1 i hi
      · rw [am_A_sA, if_neg (by simp), am_A_sA, if_pos ⟨rfl, rfl⟩, upd_n (by omega)]; exact hRw.2.2.1
      · rw [am_A_sA, if_pos ⟨rfl, rfl⟩, upd_n (by omega)]; exact hRw.2.2.2
    | cons c b ih =>
      intro a hab E hE1 hE2 a7
      have hlen : a.length < (pt j).length := by rw [hab]; simp
      have hcm : c ∈ pt j := by rw [hab]; exact List.mem_append_right _ List.mem_cons_self
      obtain ⟨hc16, hc200⟩ := gok.1 c hcm
      have hO : am_On 14 σ (am_sA σ 14 4 E) := am_On.rf.sA 4 E
      have hT' : am_Tr (am_sA σ 14 4 E) t n nd := hO.tre (by decide) h
      have eE : rl_e (pt j) a.length = nI c := by rw [hab]; exact rl_e_mid _ _ _
      refine kb_6_takeRow_21 (kt := fun z => absurd z (nI_ge hlen (by omega))) (kf := fun _ => ?_)
      refine kb_6_takeRow_27 (hc0 := ht) (hC := sp_8_entryAbove hT' hp h0 hj (show a.length < 2 ^ 31 by omega)) (k := fun r τ hr' => ?_)
      obtain ⟨rfl, rfl⟩ := hr'
      rw [eE]
      have ir : am_I (am_sA σ 14 4 E) 14 1 = nI k := hr
      have ix : am_I (am_sA σ 14 4 E) 14 1 * 16 + nI a.length = nI (16 * k + a.length) := by rw [ir, show (16 : Int32) = nI 16 from rfl, nI_mul, nI_add, Nat.mul_comm]
      refine kb_6_takeRow_34 (hi1 := by rw [ix]; exact vp_in_nI (by omega) (by omega)) (hC := sp_6_bitOf hc200) (k := fun r τ hr' => ?_)
      obtain ⟨rfl, rfl⟩ := hr'
      rw [ix, nI_clamp (show 16 * k + a.length < 2 ^ 31 by omega), am_sA_sA, am_A_sA, if_pos ⟨rfl, rfl⟩]
      have next := ih (a ++ [c]) (by rw [List.append_assoc]; exact hab) (upd E (16 * k + a.length) (nI c)) (fun z hz => ?_) (fun z hz => ?_)
      rotate_left
      · by_cases e : z = a.length
        · rw [e, upd_s, eE]
        · rw [upd_n (by omega)]; exact hE1 z (by simp at hz; omega)
      · rw [upd_n (by omega)]; exact hE2 z hz
      rw [rw_m_snoc, rw_m_snoc, List.length_append, show rw_a c = true from rfl, if_pos rfl] at next
      by_cases h100 : c < 100
      · rw [if_neg (by unfold rw_g; simp; omega), Int32.or_zero] at next
        refine kb_6_takeRow_60 (kt := fun _ => kb_6_takeRow_80 (k := ?_)) (kf := fun z => absurd ?_ z)
        · rw [nI_1]; exact next _
        · rw [nI_100]; exact nI_lt h100 (by omega)
      · rw [if_pos (by unfold rw_g; simp; omega)] at next
        refine kb_6_takeRow_60 (kt := fun z => absurd z ?_) (kf := fun _ => ?_)
        · rw [nI_100]; exact nI_nlt (by omega) (by omega)
        · refine kb_6_takeRow_70 (hC := sp_6_bitOf hc200) (k := fun r τ hr' => ?_)
          obtain ⟨rfl, rfl⟩ := hr'
          refine kb_6_takeRow_77 (k := kb_6_takeRow_80 (k := ?_))
          rw [nI_1]; exact next _
  refine am_enter rfl (by simp [Value.category]) (Nat.le_of_ble_eq_true rfl) ?_
  refine kb_6_takeRow_0 (hc0 := ht) (hi0 := vp_in_nI (by omega) (by omega)) (k := ?_)
  rw [eL, e16]
  have := loop (pt j) [] rfl (am_A σ 14 4) (fun z hz => absurd hz (Nat.not_lt_zero z)) (fun z _ => rfl) none
  rw [am_sA_id] at this
  exact this
def rl_f (Rs : List (List Nat)) (k : Nat) : List Nat := Rs.getD k []
theorem rl_f_app {a b : List (List Nat)} {k : Nat} (h : k < a.length) : rl_f (a ++ b) k = rl_f a k := by unfold rl_f; rw [List.getD_eq_getElem?_getD, List.getD_eq_getElem?_getD, List.getElem?_append_left h]
theorem rl_f_mid (a b : List (List Nat)) (c : List Nat) : rl_f (a ++ c :: b) a.length = c := by unfold rl_f; rw [List.getD_eq_getElem?_getD, ls_mid]; rfl
theorem tr_rl_ok {i e : Nat} (hp : tr_pt nd pt i e) : ∀ m, i + m ≤ e → ∀ row, row ∈ tr_rl nd pt i m → rw_ok row ∧ row.length ≤ 16 := by
  intro m
  induction m with
  | zero => intro _ row h; cases h
  | succ m ih =>
    intro hm row h
    rcases List.mem_append.mp (show row ∈ tr_rl nd pt i m ++ (if nd (i + m) 0 = 1 then [pt (i + m)] else []) from h) with z | z
    · exact ih (by omega) row z
    · have hq := hp.2 (i + m) (by omega) (by omega)
      split at z
      · have : row = pt (i + m) := by simpa using z
        rw [this]; exact ⟨hq.2.2, hq.2.1⟩
      · cases z
theorem rl_f_ok {Rs : List (List Nat)} (h : ∀ row, row ∈ Rs → rw_ok row ∧ row.length ≤ 16) (k : Nat) : rw_ok (rl_f Rs k) ∧ (rl_f Rs k).length ≤ 16 := by
  unfold rl_f
  rw [List.getD_eq_getElem?_getD]
  cases e : Rs[k]? with
  | none => exact ⟨⟨fun c hc => (by cases hc), List.Pairwise.nil⟩, Nat.zero_le _⟩
  | some row => exact h row (List.mem_of_getElem? e)
theorem sp_6_takeRows (h : am_Tr σ t n nd) (hp : tr_pt nd pt 0 n) (h0 : pt 0 = []) (h200 : (tr_rl nd pt 0 n).length ≤ 200) : am_C false ya_6_takeRows (d + 2) [.ref (am_oid 14), .ref (am_oid t)] σ (fun r τ => r = none ∧ am_On 14 σ τ ∧ am_I τ 14 1 = nI (tr_rl nd pt 0 n).length ∧ ∀ k, k < (tr_rl nd pt 0 n).length → sh_Rw τ k (rl_f (tr_rl nd pt 0 n) k)) := by
  obtain ⟨ht, hn, hI, hA⟩ := id h
  generalize hQ : (fun (r : Option Value) (τ : am_St) => r = none ∧ am_On 14 σ τ ∧ am_I τ 14 1 = nI (tr_rl nd pt 0 n).length ∧ ∀ k, k < (tr_rl nd pt 0 n).length → sh_Rw τ k (rl_f (tr_rl nd pt 0 n) k)) = Q
  have fin : ∀ (c : Nat) (τ : am_St), tr_rl nd pt 0 c = tr_rl nd pt 0 n → am_On 14 σ τ → am_I τ 14 1 = nI (tr_rl nd pt 0 c).length → (∀ k, k < (tr_rl nd pt 0 c).length → sh_Rw τ k (rl_f (tr_rl nd pt 0 c) k)) → ∀ a0 a1 a2 : Option Value, am_T false ya_6_takeRows (d + 2) Q 57 [a0, a1, a2] [] τ := fun c τ e hO h1 h2 a0 a1 a2 => by
    refine kb_6_takeRows_57 (hq := ?_)
    rw [← hQ, ← e]
    exact ⟨rfl, hO, h1, h2⟩
  have loop : ∀ (j c : Nat), c + j = n → ∀ τ : am_St, am_On 14 σ τ → am_I τ 14 1 = nI (tr_rl nd pt 0 c).length → (∀ k, k < (tr_rl nd pt 0 c).length → sh_Rw τ k (rl_f (tr_rl nd pt 0 c) k)) → am_T false ya_6_takeRows (d + 2) Q 7 [some (.ref (am_oid 14)), some (.ref (am_oid t)), some (.int (nI c))] [] τ := by
    intro j
    induction j with
    | zero =>
      intro c hc τ hO h1 h2
      have : c = n := by omega
      subst this
      have hT := hO.tre (by decide) h
      exact kb_6_takeRows_7 (hc0 := ht) (kt := fun _ => fin c τ rfl hO h1 h2 _ _ _) (kf := fun z => absurd (by rw [hT.2.2.1]; exact nI_le (by omega) (by omega)) z)
    | succ j ih =>
      intro c hc τ hO h1 h2
      have hT := hO.tre (by decide) h
      have e : tr_rl nd pt 0 (c + 1) = tr_rl nd pt 0 c ++ (if nd c 0 = 1 then [pt c] else []) := by show _ ++ (if nd (0 + c) 0 = 1 then [pt (0 + c)] else []) = _; rw [Nat.zero_add]
      have eN : tr_rl nd pt 0 n = tr_rl nd pt 0 (c + 1) ++ tr_rl nd pt (0 + (c + 1)) j := by rw [← tr_rl_add, show c + 1 + j = n by omega]
      have eK : am_A τ t 1 (nI c).toNatClampNeg = nd c 0 := by rw [nI_clamp (by omega)]; exact hT.2.2.2 c (by omega) 0 (by decide)
      have hl := congrArg List.length eN
      rw [List.length_append, e, List.length_append] at hl
      refine kb_6_takeRows_7 (hc0 := ht) (kt := fun z => absurd z (by rw [hT.2.2.1]; exact nI_ge (by omega) (by omega))) (kf := fun _ => ?_)
      refine kb_6_takeRows_15 (kt := fun z => ?_) (kf := fun z => ?_)
      · rw [h1, show (200 : Int32) = nI 200 from rfl, nI_leI (by decide) (by omega)] at z
        refine fin c τ ?_ hO h1 h2 _ _ _
        have z1 : (tr_rl nd pt (0 + (c + 1)) j).length = 0 := by omega
        have z2 : (if nd c 0 = 1 then [pt c] else []).length = 0 := by omega
        rw [eN, e, List.eq_nil_of_length_eq_zero z1, List.eq_nil_of_length_eq_zero z2, List.append_nil, List.append_nil]
      · rw [h1, show (200 : Int32) = nI 200 from rfl, nI_leI (by decide) (by omega)] at z
        refine kb_6_takeRows_25 (hc0 := ht) (hi0 := vp_in_nI (by omega) (by omega)) (kt := fun y => ?_) (kf := fun y => ?_)
        · rw [eK] at y
          rw [if_neg y, List.append_nil] at e
          refine kb_6_takeRows_51 (k := ?_)
          rw [nI_1]
          exact ih (c + 1) (by omega) τ hO (by rw [e]; exact h1) (by rw [e]; exact h2)
        · rw [eK] at y
          rw [if_pos y] at e
          refine kb_6_takeRows_35 (hC := sp_6_takeRow hT hp h0 (show c < n by omega) (show (tr_rl nd pt 0 c).length < 200 by omega) h1) (k := fun r τ1 hr => ?_)
          obtain ⟨rfl, u1, u2, u3, u4, u5⟩ := hr
          refine kb_6_takeRows_41 (k := kb_6_takeRows_51 (k := ?_))
          rw [nI_1, u2, h1, nI_1]
          refine ih (c + 1) (by omega) _ ((hO.tr u1).sI 1 _) ?_ ?_
          · rw [am_I_sI, if_pos ⟨rfl, rfl⟩, e, List.length_append]; rfl
          · intro k hk
            rw [e, List.length_append] at hk
            have hk' : k < (tr_rl nd pt 0 c).length + 1 := hk
            show sh_Rw τ1 k _
            rw [e]
            by_cases c2 : k = (tr_rl nd pt 0 c).length
            · rw [c2, rl_f_mid]; exact u4
            · rw [rl_f_app (by omega)]
              refine u5 k _ (by omega) ?_ (h2 k (by omega))
              exact (rl_f_ok (tr_rl_ok hp c (by omega)) k).2
  refine am_enter rfl (by simp [Value.category]) (Nat.le_of_ble_eq_true rfl) (kb_6_takeRows_0 (k := ?_))
  have := loop n 0 (by omega) (am_sI σ 14 1 0) (am_On.rf.sI 1 0) (by rw [am_I_sI, if_pos ⟨rfl, rfl⟩]; rfl) (fun k hk => absurd hk (Nat.not_lt_zero k))
  rw [nI_0] at this
  exact this
theorem sp_6_addCover (hW : am_Wo σ N K T tb fl nx) {row : List Nat} (ok : rw_ok row) (x : Int32) : am_C false ya_6_addCover d [.ref (am_oid 14), .int (rw_m rw_a row), .int (rw_m rw_g row), .int x] σ (fun r τ => r = none ∧ ∃ F : Nat → Int32, τ = am_sA σ 14 7 F ∧ ∀ s, s < N → F s = am_A σ 14 7 s + (if rw_h (tb s) row = true then x else 0)) := by
  obtain ⟨w1, w2, w3, w4, w5, w6, w7, w8⟩ := id hW
  have loop : ∀ (j i : Nat), i + j = N → ∀ F : Nat → Int32, (∀ s, s < i → F s = am_A σ 14 7 s + (if rw_h (tb s) row = true then x else 0)) → (∀ s, i ≤ s → F s = am_A σ 14 7 s) → am_T false ya_6_addCover d (fun r τ => r = none ∧ ∃ F : Nat → Int32, τ = am_sA σ 14 7 F ∧ ∀ s, s < N → F s = am_A σ 14 7 s + (if rw_h (tb s) row = true then x else 0)) 3 [some (.ref (am_oid 14)), some (.int (rw_m rw_a row)), some (.int (rw_m rw_g row)), some (.int x), some (.int (nI i))] [] (am_sA σ 14 7 F) := by
    intro j
    induction j with
    | zero =>
      intro i hi F h1 h2
      have : i = N := by omega
      subst this
      refine kb_6_addCover_3 (kt := fun _ => kb_6_addCover_48 (hq := ⟨rfl, F, rfl, h1⟩)) (kf := fun z => absurd ?_ z)
      show am_I σ 4 5 ≤ _
      rw [w4]; exact nI_le (by omega) (by omega)
    | succ j ih =>
      intro i hi F h1 h2
      have v : vp_in (nI i) 600 := vp_in_nI (by omega) (by omega)
      have c : (nI i).toNatClampNeg = i := nI_clamp (by omega)
      have eB : am_A (am_sA σ 14 7 F) 4 10 (nI i).toNatClampNeg = tb i := by rw [c, am_A_sA, if_neg (by simp)]; exact (w7 i (by omega)).1
      have eF : am_A (am_sA σ 14 7 F) 14 7 = F := by rw [am_A_sA, if_pos ⟨rfl, rfl⟩]
      refine kb_6_addCover_3 (kt := fun z => absurd z ?_) (kf := fun _ => ?_)
      · show ¬ am_I σ 4 5 ≤ _
        rw [w4]; exact nI_ge (by omega) (by omega)
      refine kb_6_addCover_15 (hi0 := v) (kt := fun z => ?_) (kf := fun z => ?_)
      · rw [eB, rw_h_cl ok] at z
        refine kb_6_addCover_42 (k := ?_)
        rw [nI_1]
        refine ih (i + 1) (by omega) F (fun s hs => ?_) (fun s hs => h2 s (by omega))
        by_cases e : s = i
        · rw [e, if_neg z, Int32.add_zero]; exact h2 i (Nat.le_refl _)
        · exact h1 s (by omega)
      · rw [eB, rw_h_cl ok] at z
        refine kb_6_addCover_31 (hi0 := v) (hi1 := v) (k := kb_6_addCover_42 (k := ?_))
        rw [nI_1, c, eF, am_sA_sA]
        refine ih (i + 1) (by omega) _ (fun s hs => ?_) (fun s hs => ?_)
        · by_cases e : s = i
          · rw [e, upd_s, if_pos z, h2 i (Nat.le_refl _)]
          · rw [upd_n e]; exact h1 s (by omega)
        · rw [upd_n (by omega)]; exact h2 s (by omega)
  refine am_enter rfl (by simp [Value.category]) (Nat.le_of_ble_eq_true rfl) (kb_6_addCover_0 (k := ?_))
  have := loop N 0 (by omega) (am_A σ 14 7) (fun s hs => absurd hs (Nat.not_lt_zero s)) (fun s _ => rfl)
  rw [am_sA_id, nI_0] at this
  exact this
theorem sp_6_isLeft (hW : am_Wo σ N K T tb fl nx) {held : Nat → Bool} (hH : ∀ s, s < N → ∃ c, c ≤ 200 ∧ am_A σ 14 7 s = nI c ∧ held s = decide (0 < c)) {s : Nat} (hs : s < N) : am_C false ya_6_isLeft d [.ref (am_oid 14), .int (nI s)] σ (fun r τ => τ = σ ∧ r = some (.int (am_bI (bs_h nx (fun t => !held t) s K)))) := by
  obtain ⟨w1, w2, w3, w4, w5, w6, w7, w8⟩ := id hW
  obtain ⟨B, hB⟩ : ∃ B : Nat → Bool, B = fun t => !held t := ⟨_, rfl⟩
  rw [← hB]
  have loop : ∀ (j k : Nat), k + j = K → bs_h nx B s k = false → ∀ a3 : Option Value, am_T false ya_6_isLeft d (fun r τ => τ = σ ∧ r = some (.int (am_bI (bs_h nx B s K)))) 2 [some (.ref (am_oid 14)), some (.int (nI s)), some (.int (nI k)), a3] [] σ := by
    intro j
    induction j with
    | zero =>
      intro k hk h a3
      have : k = K := by omega
      subst this
      refine kb_6_isLeft_2 (kt := fun _ => kb_6_isLeft_49 ⟨rfl, by rw [h]; rfl⟩) (kf := fun z => absurd ?_ z)
      rw [w5]; exact nI_le (by omega) (by omega)
    | succ j ih =>
      intro k hk h a3
      obtain ⟨g1, g2⟩ := w8 s hs k (by omega)
      have eT : am_A σ 4 11 (nI s * 8 + nI k).toNatClampNeg = am_oI (-2) (nx s k) := by rw [am_ix8, nI_clamp (by omega)]; exact g1
      have no : (match nx s k with | none => false | some t => B t) = false → ∀ a3 : Option Value, am_T false ya_6_isLeft d (fun r τ => τ = σ ∧ r = some (.int (am_bI (bs_h nx B s K)))) 43 [some (.ref (am_oid 14)), some (.int (nI s)), some (.int (nI k)), a3] [] σ := fun z a3 => by
        refine kb_6_isLeft_43 (k := ?_)
        rw [nI_1]
        refine ih (k + 1) (by omega) ?_ _
        show (bs_h nx B s k || _) = false
        rw [h, Bool.false_or]; exact z
      refine kb_6_isLeft_2 (kt := fun z => absurd z ?_) (kf := fun _ => ?_)
      · rw [w5]; exact nI_ge (by omega) (by omega)
      refine kb_6_isLeft_13 (hi0 := by rw [am_ix8]; exact vp_in_nI (by omega) (by omega)) (kt := fun z => ?_) (kf := fun z => ?_)
      · rw [eT, am_oI_neg g2 w1 _ am_neg2] at z
        exact no (by rw [z]) _
      · rw [eT, am_oI_neg g2 w1 _ am_neg2] at z
        rw [eT]
        cases hx : nx s k with
        | none => exact absurd hx z
        | some t =>
          have ht := g2 t hx
          obtain ⟨c, c1, c2, c3⟩ := hH t ht
          show am_T _ _ _ _ _ [_, _, _, some (.int (nI t))] _ _
          refine kb_6_isLeft_32 (hi0 := vp_in_nI (by omega) (by omega)) (kt := fun y => ?_) (kf := fun y => ?_)
          · rw [nI_clamp (by omega), c2, nI_eq0 (by omega)] at y
            refine no ?_ _
            rw [hx]
            show B t = false
            rw [hB]
            show (!held t) = false
            rw [c3, decide_eq_true (by omega)]; rfl
          · rw [nI_clamp (by omega), c2, nI_eq0 (by omega)] at y
            refine kb_6_isLeft_41 ⟨rfl, ?_⟩
            have h1 : bs_h nx B s (k + 1) = true := by
              show (bs_h nx B s k || _) = true
              rw [hx, hB]
              show (_ || !held t) = true
              rw [c3, decide_eq_false (by omega)]; simp
            have := bs_h_mono h1 j
            rw [show k + 1 + j = K by omega] at this
            rw [this]; rfl
  refine am_enter rfl (by simp [Value.category]) (Nat.le_of_ble_eq_true rfl) (kb_6_isLeft_0 (k := ?_))
  have := loop K 0 (by omega) rfl none
  rw [nI_0] at this
  exact this
theorem sp_6_proves (hW : am_Wo σ N K T tb fl nx) {held : Nat → Bool} (hH : ∀ s, s < N → ∃ c, c ≤ 200 ∧ am_A σ 14 7 s = nI c ∧ held s = decide (0 < c)) : am_C false ya_6_proves (d + 1) [.ref (am_oid 14)] σ (fun r τ => τ = σ ∧ r = some (.int (am_bI (rs_pv N K fl nx held)))) := by
  obtain ⟨w1, w2, w3, w4, w5, w6, w7, w8⟩ := id hW
  obtain ⟨B1, hB1⟩ : ∃ B1 : Nat → Bool, B1 = fun s => if held s = true then fl s 1 else fl s 0 := ⟨_, rfl⟩
  obtain ⟨B2, hB2⟩ : ∃ B2 : Nat → Bool, B2 = fun s => held s && bs_h nx (fun t => !held t) s K := ⟨_, rfl⟩
  have eP : rs_pv N K fl nx held = (!(bs_an B1 N) && !(bs_an B2 N)) := by unfold rs_pv; rw [hB1, hB2]
  generalize hQ : (fun (r : Option Value) (τ : am_St) => τ = σ ∧ r = some (.int (am_bI (rs_pv N K fl nx held)))) = Q
  have loop2 : bs_an B1 N = false → ∀ (j s : Nat), s + j = N → bs_an B2 s = false → ∀ a2 : Option Value, am_T false ya_6_proves (d + 1) Q 52 [some (.ref (am_oid 14)), some (.int (nI s)), a2] [] σ := by
    intro hb1 j
    induction j with
    | zero =>
      intro s hs h a2
      have : s = N := by omega
      subst this
      refine kb_6_proves_52 (kt := fun _ => kb_6_proves_88 ?_) (kf := fun z => absurd (by rw [w4]; exact nI_le (by omega) (by omega)) z)
      rw [← hQ, eP, hb1, h]; exact ⟨rfl, rfl⟩
    | succ j ih =>
      intro s hs h a2
      obtain ⟨c, c1, c2, c3⟩ := hH s (by omega)
      have v : vp_in (nI s) 600 := vp_in_nI (by omega) (by omega)
      have no : B2 s = false → am_T false ya_6_proves (d + 1) Q 82 [some (.ref (am_oid 14)), some (.int (nI s)), a2] [] σ := fun z => by
        refine kb_6_proves_82 (k := ?_)
        rw [nI_1]
        refine ih (s + 1) (by omega) ?_ _
        show (bs_an B2 s || B2 s) = false
        rw [h, z]; rfl
      refine kb_6_proves_52 (kt := fun z => absurd z (by rw [w4]; exact nI_ge (by omega) (by omega))) (kf := fun _ => ?_)
      refine kb_6_proves_63 (hi0 := v) (kt := fun z => ?_) (kf := fun z => ?_)
      · rw [nI_clamp (by omega), c2, ← nI_0, nI_leI (by omega) (by omega)] at z
        refine no ?_
        rw [hB2]
        show (held s && _) = false
        rw [c3, decide_eq_false (by omega)]; rfl
      · rw [nI_clamp (by omega), c2, ← nI_0, nI_leI (by omega) (by omega)] at z
        have e2 : B2 s = bs_h nx (fun t => !held t) s K := by
          rw [hB2]
          show (held s && _) = _
          rw [c3, decide_eq_true (by omega)]; rfl
        refine kb_6_proves_72 (hC := sp_6_isLeft hW hH (show s < N by omega)) (k := fun r τ hr => ?_)
        obtain ⟨rfl, rfl⟩ := hr
        rw [← e2]
        refine kb_6_proves_77 (kt := fun y => ?_) (kf := fun y => kb_6_proves_80 ?_)
        · rw [am_bI_0] at y; exact no y
        · rw [am_bI_0] at y
          have : bs_an B2 N = true := bs_an_iff.mpr ⟨s, by omega, by simpa using y⟩
          rw [← hQ, eP, this]
          refine ⟨rfl, ?_⟩
          cases bs_an B1 N <;> rfl
  have loop1 : ∀ (j s : Nat), s + j = N → bs_an B1 s = false → ∀ a2 : Option Value, am_T false ya_6_proves (d + 1) Q 2 [some (.ref (am_oid 14)), some (.int (nI s)), a2] [] σ := by
    intro j
    induction j with
    | zero =>
      intro s hs h a2
      have : s = N := by omega
      subst this
      refine kb_6_proves_2 (kt := fun _ => kb_6_proves_50 (k := ?_)) (kf := fun z => absurd (by rw [w4]; exact nI_le (by omega) (by omega)) z)
      have := loop2 h s 0 (by omega) rfl a2
      rw [nI_0] at this
      exact this
    | succ j ih =>
      intro s hs h a2
      obtain ⟨c, c1, c2, c3⟩ := hH s (by omega)
      have v : vp_in (nI s) 600 := vp_in_nI (by omega) (by omega)
      have eF : am_A σ 4 9 (nI s).toNatClampNeg = am_f4 (fl s 0) (fl s 1) (fl s 2) (fl s 3) := by rw [nI_clamp (by omega)]; exact (w7 s (by omega)).2
      have no : B1 s = false → ∀ a2 : Option Value, am_T false ya_6_proves (d + 1) Q 44 [some (.ref (am_oid 14)), some (.int (nI s)), a2] [] σ := fun z a2 => by
        refine kb_6_proves_44 (k := ?_)
        rw [nI_1]
        refine ih (s + 1) (by omega) ?_ _
        show (bs_an B1 s || B1 s) = false
        rw [h, z]; rfl
      have yes : B1 s = true → ∀ a2 : Option Value, am_T false ya_6_proves (d + 1) Q 42 [some (.ref (am_oid 14)), some (.int (nI s)), a2] [] σ := fun z a2 => by
        refine kb_6_proves_42 ?_
        have : bs_an B1 N = true := bs_an_iff.mpr ⟨s, by omega, z⟩
        rw [← hQ, eP, this]; exact ⟨rfl, rfl⟩
      refine kb_6_proves_2 (kt := fun z => absurd z (by rw [w4]; exact nI_ge (by omega) (by omega))) (kf := fun _ => ?_)
      refine kb_6_proves_13 (hi0 := v) (kt := fun z => ?_) (kf := fun z => ?_)
      · rw [nI_clamp (by omega), c2, ← nI_0, nI_leI (by omega) (by omega)] at z
        have e1 : B1 s = fl s 0 := by
          rw [hB1]
          show (if held s = true then _ else _) = _
          rw [c3, decide_eq_false (by omega)]; rfl
        refine kb_6_proves_26 (k := kb_6_proves_27 (hi1 := v) (kt := fun y => ?_) (kf := fun y => ?_))
        · rw [eF, (am_f4_and _ _ _ _).1] at y; exact no (by rw [e1]; exact y) _
        · rw [eF, (am_f4_and _ _ _ _).1] at y; exact yes (by rw [e1]; simpa using y) _
      · rw [nI_clamp (by omega), c2, ← nI_0, nI_leI (by omega) (by omega)] at z
        have e1 : B1 s = fl s 1 := by
          rw [hB1]
          show (if held s = true then _ else _) = _
          rw [c3, decide_eq_true (by omega)]; rfl
        refine kb_6_proves_22 (k := kb_6_proves_27 (hi1 := v) (kt := fun y => ?_) (kf := fun y => ?_))
        · rw [eF, (am_f4_and _ _ _ _).2.1] at y; exact no (by rw [e1]; exact y) _
        · rw [eF, (am_f4_and _ _ _ _).2.1] at y; exact yes (by rw [e1]; simpa using y) _
  refine am_enter rfl (by simp [Value.category]) (Nat.le_of_ble_eq_true rfl) (kb_6_proves_0 (k := ?_))
  have := loop1 N 0 (by omega) rfl none
  rw [nI_0] at this
  exact this
end SHC
