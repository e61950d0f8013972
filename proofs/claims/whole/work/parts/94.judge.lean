/-! what each state is: the class's targetOf, judge; the reference's lead -/
def pl_tb (p : Nat → Bool) : Nat → Int32
  | 0 => 0
  | t + 1 => if p t = true then pl_tb p t ||| (1 <<< (nI t &&& 31)) else pl_tb p t
theorem pl_C.same {σ τ : am_St} {nv K na : Nat} {sg : Nat → Int32} {fm : Nat → Nat → Int32} {cf cn : Nat → Nat} {g : Nat → Bool} {sf : Nat → Nat → Int32} (h : pl_C σ nv K na sg fm cf cn g sf) (hA : ∀ k, am_A τ 1 k = am_A σ 1 k) : pl_C τ nv K na sg fm cf cn g sf := by
  obtain ⟨h1, h2, h3, h4⟩ := h
  exact ⟨h1, fun c hc => by rw [hA, hA]; exact h2 c hc, fun a ha => by rw [hA, hA]; exact h3 a ha, fun k hk v hv => by rw [hA, hA]; exact h4 k hk v hv⟩
theorem ld_n {y : Int32} {l : Int} {w : Nat} (h1 : -20 ≤ l) (h2 : 1 ≤ w) (h3 : l + w ≤ 21) : (¬ (y - iI l < 0) ∧ y - iI l < nI w) = (l ≤ y.toInt ∧ y.toInt < l + w) := by
  have hr := i32_rng y
  have e : (y - iI l).toInt = (y.toInt - l).bmod 4294967296 := by rw [Int32.toInt_sub, iI_to (by omega) (by omega)]
  rw [Int.bmod_def] at e
  rw [Int32.lt_iff_toInt_lt, Int32.lt_iff_toInt_lt, nI_toInt (by omega), show (0 : Int32).toInt = 0 from rfl]
  refine propext ⟨fun z => ?_, fun z => ?_⟩
  · split at e <;> omega
  · split at e <;> omega
section JUDGE
variable {d nv ns nb N K T na : Nat} {lo : Nat → Int} {wd : Nat → Nat} {sg : Nat → Int32} {fm : Nat → Nat → Int32} {cf cn : Nat → Nat} {g : Nat → Bool} {sf : Nat → Nat → Int32} {x : Nat → Int32} {σ : am_St}
theorem sp_9_targetOf {s k : Nat} (hP : pl_C σ nv K na sg fm cf cn g sf) (hk : wl_ok nv lo wd N) (h0 : am_I σ 4 0 = nI nv) (hb : ∀ v, v < nv → am_A σ 4 6 v = iI (lo v) ∧ am_A σ 4 7 v = iI (lo v + wd v - 1)) (hs : s < 600) (hk8 : k < K) (hK : K ≤ 8) (hx : ∀ v, v < nv → am_A σ 4 8 (3 * s + v) = x v) : am_C false ya_9_targetOf (d + 2) [.ref (am_oid 4), .ref (am_oid 1), .int (nI s), .int (nI k)] σ (fun r τ => r = some (.int (am_oI (-2) (pl_nx nv lo wd sg fm cf cn g sf x k))) ∧ ∃ F : Nat → Int32, τ = am_sA σ 4 12 F) := by
  have hnv := hk.1
  have e8 : (8 : Int32) + nI k = nI (8 + k) := by rw [show (8 : Int32) = nI 8 from rfl, nI_add]
  have e3 : ∀ a b : Nat, nI a * 3 + nI b = nI (3 * a + b) := fun a b => by rw [show (3 : Int32) = nI 3 from rfl, nI_mul, nI_add, Nat.mul_comm]
  refine am_enter rfl (by simp [Value.category]) (Nat.le_of_ble_eq_true rfl) ?_
  refine kb_9_targetOf_0 (hC := by
    rw [e8]
    exact sp_9_isMet hP hnv h0 (show 8 + k < 32 by omega) hs hx) (k := fun r τ hr => ?_)
  obtain ⟨hτ, rfl⟩ := hr
  rw [hτ]
  cases hc : pl_cd nv sg fm cf cn x (8 + k) with
  | false =>
    have eV : pl_nx nv lo wd sg fm cf cn g sf x k = none := by unfold pl_nx; rw [hc]; rfl
    rw [eV]
    exact kb_9_targetOf_10 (kt := fun z => absurd rfl z) (kf := fun _ => kb_9_targetOf_13 ⟨rfl, am_A σ 4 12, by rw [am_sA_id]⟩)
  | true =>
    have eV : pl_nx nv lo wd sg fm cf cn g sf x k = wl_s lo wd (fun v => (pl_wv lo wd nv g sf x k v).toInt) nv := by unfold pl_nx; rw [hc]; rfl
    rw [eV]
    refine kb_9_targetOf_10 (kt := fun _ => kb_9_targetOf_16 (k := ?_)) (kf := fun z => absurd z (show ¬ am_bI true = 0 by decide))
    have loop : ∀ (j v : Nat) (a5 : Option Value), v + j = nv → ∀ F : Nat → Int32, (∀ w, w < v → F w = pl_wv lo wd nv g sf x k w) → am_T false ya_9_targetOf (d + 2) (fun r τ => r = some (.int (am_oI (-2) (wl_s lo wd (fun v => (pl_wv lo wd nv g sf x k v).toInt) nv))) ∧ ∃ F : Nat → Int32, τ = am_sA σ 4 12 F) 19 [some (.ref (am_oid 4)), some (.ref (am_oid 1)), some (.int (nI s)), some (.int (nI k)), some (.int (nI v)), a5] [] (am_sA σ 4 12 F) := by
      intro j
      induction j with
      | zero =>
        intro v a5 hv F hF
        have : v = nv := by omega
        subst this
        have g12 : am_A (am_sA σ 4 12 F) 4 12 = F := by rw [am_A_sA, if_pos ⟨rfl, rfl⟩]
        refine kb_9_targetOf_19 (kt := fun _ => ?_) (kf := fun z => absurd (show am_I σ 4 0 ≤ nI v by rw [h0]; exact nI_le (by omega) (by omega)) z)
        refine kb_9_targetOf_86 (hC := sp_9_wantedState (σ := am_sA σ 4 12 F) hk h0 (fun w hw => by rw [am_A_sA, if_neg (by simp), am_A_sA, if_neg (by simp)]; exact hb w hw)) (k := fun r τ1 hr => ?_)
        obtain ⟨hτ1, rfl⟩ := hr
        rw [g12, wl_s_cg (f := fun v' => (F v').toInt) (g := fun v' => (pl_wv lo wd v g sf x k v').toInt) v (fun w hw => by show (F w).toInt = _; rw [hF w hw])]
        cases hw : wl_s lo wd (fun v' => (pl_wv lo wd v g sf x k v').toInt) v with
        | none => exact kb_9_targetOf_90 (kt := fun _ => kb_9_targetOf_102 (k := kb_9_targetOf_104 ⟨rfl, F, hτ1⟩)) (kf := fun z => absurd am_neg1 z)
        | some t =>
          have ht := wl_s_lt v hw
          have := hk.2.2.1
          have := hk.2.2.2
          exact kb_9_targetOf_90 (kt := fun z => absurd z (nI_pos (show t < 2 ^ 31 by omega))) (kf := fun _ => kb_9_targetOf_97 (k := kb_9_targetOf_104 ⟨rfl, F, hτ1⟩))
      | succ j ih =>
        intro v a5 hv F hF
        have hP' : pl_C (am_sA σ 4 12 F) nv K na sg fm cf cn g sf := hP.same (fun k => by rw [am_A_sA, if_neg (by simp)])
        have hx' : ∀ v, v < nv → am_A (am_sA σ 4 12 F) 4 8 (3 * s + v) = x v := fun v hv => by rw [am_A_sA, if_neg (by simp)]; exact hx v hv
        obtain ⟨g1, g2⟩ := hP'.2.2.2 k hk8 v (by omega)
        have ci : (nI (3 * k + v)).toNatClampNeg = 3 * k + v := nI_clamp (by omega)
        refine kb_9_targetOf_19 (kt := fun z => absurd (show am_I σ 4 0 ≤ nI v from z) (by rw [h0]; exact nI_ge (by omega) (by omega))) (kf := fun _ => ?_)
        have go : ∀ w : Int32, w = pl_wv lo wd nv g sf x k v → ∀ b5 : Option Value, am_T false ya_9_targetOf (d + 2) (fun r τ => r = some (.int (am_oI (-2) (wl_s lo wd (fun v => (pl_wv lo wd nv g sf x k v).toInt) nv))) ∧ ∃ F : Nat → Int32, τ = am_sA σ 4 12 F) 79 [some (.ref (am_oid 4)), some (.ref (am_oid 1)), some (.int (nI s)), some (.int (nI k)), some (.int (nI v)), b5] [.int w, .int (nI v), .ref (am_aid 4 12)] (am_sA σ 4 12 F) := by
          intro w hw b5
          refine kb_9_targetOf_79 (hi0 := vp_in_nI (by omega) (by omega)) (k := ?_)
          rw [nI_clamp (show v < 2 ^ 31 by omega), nI_1, am_sA_sA, am_A_sA, if_pos ⟨rfl, rfl⟩]
          refine ih (v + 1) _ (by omega) _ (fun u hu => ?_)
          by_cases c : u = v
          · rw [c, upd_s]; exact hw
          · rw [upd_n c]; exact hF u (by omega)
        refine kb_9_targetOf_28 (hc0 := rfl) (hi0 := by rw [e3]; exact vp_in_nI (by omega) (by omega)) (kt := fun z => ?_) (kf := fun z => ?_)
        · rw [e3, ci, g1, am_bI_0] at z
          rw [e3]
          refine kb_9_targetOf_68 (hi0 := by rw [e3]; exact vp_in_nI (by omega) (by omega)) (k := go _ ?_ _)
          rw [e3, nI_clamp (show 3 * s + v < 2 ^ 31 by omega), hx' v (by omega)]
          unfold pl_wv
          rw [z]; rfl
        · rw [e3, ci, g1, am_bI_0] at z
          have z' : g (3 * k + v) = true := by simpa using z
          rw [e3]
          have e4 : nI (3 * k + v) * 4 = nI (4 * (3 * k + v)) := by rw [show (4 : Int32) = nI 4 from rfl, nI_mul, Nat.mul_comm]
          refine kb_9_targetOf_52 (hc0 := rfl) (hC := by
            rw [e4]
            exact sp_9_evaluate (o := 1) (kr := 14) (c := 2) (n := 96) rfl (by decide) rfl (by decide) (by omega) hnv h0 (g2 z') hs hx') (k := fun r τ1 hr => ?_)
          obtain ⟨hτ1, rfl⟩ := hr
          rw [hτ1]
          refine kb_9_targetOf_65 (k := go _ ?_ _)
          unfold pl_wv
          rw [z']; rfl
    have := loop nv 0 none (by omega) (am_A σ 4 12) (fun w hw => absurd hw (Nat.not_lt_zero w))
    rw [am_sA_id, nI_0] at this
    exact this
theorem f4_or1 (b : Bool) : am_f4 b false false false ||| 1 = am_f4 true false false false := by cases b <;> decide
theorem f4_or2 (a b : Bool) : am_f4 a b false false ||| 2 = am_f4 a true false false := by cases a <;> cases b <;> decide
theorem sp_9_judge {s : Nat} (hP : pl_C σ nv K na sg fm cf cn g sf) (hnv : nv ≤ 3) (h0 : am_I σ 4 0 = nI nv) (h1 : am_I σ 4 1 = nI ns) (h2 : am_I σ 4 2 = nI nb) (h4 : am_I σ 4 4 = nI T) (hns : ns ≤ 4) (hnb : nb ≤ 4) (hT : T ≤ 16) (hs : s < 600) (hx : ∀ v, v < nv → am_A σ 4 8 (3 * s + v) = x v) : am_C false ya_9_judge (d + 2) [.ref (am_oid 4), .ref (am_oid 1), .int (nI s)] σ (fun r τ => r = none ∧ τ = am_sA (am_sA σ 4 9 (upd (am_A σ 4 9) s (am_f4 (pl_ex (fun c => pl_cd nv sg fm cf cn x c) ns) (pl_ex (fun c => pl_cd nv sg fm cf cn x (4 + c)) nb) false false))) 4 10 (upd (am_A σ 4 10) s (pl_tb (fun t => pl_cd nv sg fm cf cn x (16 + t)) T))) := by
  obtain ⟨pA, hpA⟩ : ∃ p : Nat → Bool, p = fun c => pl_cd nv sg fm cf cn x c := ⟨_, rfl⟩
  obtain ⟨pB, hpB⟩ : ∃ p : Nat → Bool, p = fun c => pl_cd nv sg fm cf cn x (4 + c) := ⟨_, rfl⟩
  obtain ⟨pT, hpT⟩ : ∃ p : Nat → Bool, p = fun t => pl_cd nv sg fm cf cn x (16 + t) := ⟨_, rfl⟩
  rw [← hpA, ← hpB, ← hpT]
  generalize hQ : (fun (r : Option Value) (τ : am_St) => r = none ∧ τ = am_sA (am_sA σ 4 9 (upd (am_A σ 4 9) s (am_f4 (pl_ex pA ns) (pl_ex pB nb) false false))) 4 10 (upd (am_A σ 4 10) s (pl_tb pT T))) = Q
  have cs : (nI s).toNatClampNeg = s := nI_clamp (by omega)
  -- the tests
  have loopT : ∀ (j i : Nat) (a3 : Option Value), i + j = T → am_T false ya_9_judge (d + 2) Q 83 [some (.ref (am_oid 4)), some (.ref (am_oid 1)), some (.int (nI s)), some (.int (am_f4 (pl_ex pA ns) (pl_ex pB nb) false false)), some (.int (pl_tb pT i)), some (.int (nI i))] [] (am_sA σ 4 9 (upd (am_A σ 4 9) s (am_f4 (pl_ex pA ns) (pl_ex pB nb) false false))) := by
    intro j
    induction j with
    | zero =>
      intro i a3 hi
      have : i = T := by omega
      subst this
      refine kb_9_judge_83 (kt := fun _ => kb_9_judge_121 (hi0 := vp_in_nI (by omega) (by omega)) (hq := ?_)) (kf := fun z => absurd (show am_I σ 4 4 ≤ nI i by rw [h4]; exact nI_le (by omega) (by omega)) z)
      rw [← hQ, cs, am_A_sA, if_neg (by simp)]
      exact ⟨rfl, rfl⟩
    | succ j ih =>
      intro i a3 hi
      have e16 : (16 : Int32) + nI i = nI (16 + i) := by rw [show (16 : Int32) = nI 16 from rfl, nI_add]
      have next := ih (i + 1) none (by omega)
      refine kb_9_judge_83 (kt := fun z => absurd (show am_I σ 4 4 ≤ nI i from z) (by rw [h4]; exact nI_ge (by omega) (by omega))) (kf := fun _ => ?_)
      refine kb_9_judge_92 (hC := by
        rw [e16]
        exact sp_9_isMet (x := x) (hP.same (fun k => by rw [am_A_sA, if_neg (by simp)])) hnv h0 (show 16 + i < 32 by omega) hs (fun v hv => by rw [am_A_sA, if_neg (by simp)]; exact hx v hv)) (k := fun r τ hr => ?_)
      obtain ⟨hτ, rfl⟩ := hr
      have eP : pl_cd nv sg fm cf cn x (16 + i) = pT i := by rw [hpT]
      rw [hτ, eP]
      have eN : pl_tb pT (i + 1) = if pT i = true then pl_tb pT i ||| (1 <<< (nI i &&& 31)) else pl_tb pT i := rfl
      rw [eN] at next
      cases hb : pT i with
      | true =>
        rw [hb, if_pos rfl] at next
        refine kb_9_judge_103 (kt := fun z => absurd z (show ¬ am_bI true = 0 by decide)) (kf := fun _ => kb_9_judge_106 (k := kb_9_judge_115 (k := ?_)))
        rw [nI_1]; exact next
      | false =>
        rw [hb, if_neg (by decide)] at next
        refine kb_9_judge_103 (kf := fun z => absurd rfl z) (kt := fun _ => kb_9_judge_115 (k := ?_))
        rw [nI_1]; exact next
  have loopB : ∀ (j i : Nat) (a5 : Option Value), i + j = nb → am_T false ya_9_judge (d + 2) Q 38 [some (.ref (am_oid 4)), some (.ref (am_oid 1)), some (.int (nI s)), some (.int (am_f4 (pl_ex pA ns) (pl_ex pB i) false false)), some (.int (nI i)), a5] [] σ := by
    intro j
    induction j with
    | zero =>
      intro i a5 hi
      have : i = nb := by omega
      subst this
      refine kb_9_judge_38 (kt := fun _ => kb_9_judge_70 (hi0 := vp_in_nI (by omega) (by omega)) (k := ?_)) (kf := fun z => absurd (by rw [h2]; exact nI_le (by omega) (by omega)) z)
      rw [cs]
      have := loopT T 0 none (by omega)
      rw [nI_0] at this
      exact this
    | succ j ih =>
      intro i a5 hi
      have e4 : (4 : Int32) + nI i = nI (4 + i) := by rw [show (4 : Int32) = nI 4 from rfl, nI_add]
      have next := fun a => ih (i + 1) a (by omega)
      refine kb_9_judge_38 (kt := fun z => absurd z (by rw [h2]; exact nI_ge (by omega) (by omega))) (kf := fun _ => ?_)
      refine kb_9_judge_47 (hC := by
        rw [e4]
        exact sp_9_isMet hP hnv h0 (show 4 + i < 32 by omega) hs hx) (k := fun r τ hr => ?_)
      obtain ⟨rfl, rfl⟩ := hr
      have eP : pl_cd nv sg fm cf cn x (4 + i) = pB i := by rw [hpB]
      have eN : pl_ex pB (i + 1) = (pl_ex pB i || pB i) := rfl
      rw [eN] at next
      rw [eP]
      cases hb : pB i with
      | true =>
        rw [hb, Bool.or_true] at next
        refine kb_9_judge_57 (kt := fun z => absurd z (show ¬ am_bI true = 0 by decide)) (kf := fun _ => kb_9_judge_60 (k := kb_9_judge_64 (k := ?_)))
        rw [nI_1, f4_or2]; exact next _
      | false =>
        rw [hb, Bool.or_false] at next
        refine kb_9_judge_57 (kf := fun z => absurd rfl z) (kt := fun _ => kb_9_judge_64 (k := ?_))
        rw [nI_1]; exact next _
  have loopA : ∀ (j i : Nat) (a5 : Option Value), i + j = ns → am_T false ya_9_judge (d + 2) Q 5 [some (.ref (am_oid 4)), some (.ref (am_oid 1)), some (.int (nI s)), some (.int (am_f4 (pl_ex pA i) false false false)), some (.int (nI i)), a5] [] σ := by
    intro j
    induction j with
    | zero =>
      intro i a5 hi
      have : i = ns := by omega
      subst this
      refine kb_9_judge_5 (kt := fun _ => kb_9_judge_35 (k := ?_)) (kf := fun z => absurd (by rw [h1]; exact nI_le (by omega) (by omega)) z)
      have := loopB nb 0 a5 (by omega)
      rw [nI_0] at this
      exact this
    | succ j ih =>
      intro i a5 hi
      have next := fun a => ih (i + 1) a (by omega)
      refine kb_9_judge_5 (kt := fun z => absurd z (by rw [h1]; exact nI_ge (by omega) (by omega))) (kf := fun _ => ?_)
      refine kb_9_judge_14 (hC := sp_9_isMet hP hnv h0 (show i < 32 by omega) hs hx) (k := fun r τ hr => ?_)
      obtain ⟨rfl, rfl⟩ := hr
      have eP : pl_cd nv sg fm cf cn x i = pA i := by rw [hpA]
      have eN : pl_ex pA (i + 1) = (pl_ex pA i || pA i) := rfl
      rw [eN] at next
      rw [eP]
      cases hb : pA i with
      | true =>
        rw [hb, Bool.or_true] at next
        refine kb_9_judge_22 (kt := fun z => absurd z (show ¬ am_bI true = 0 by decide)) (kf := fun _ => kb_9_judge_25 (k := kb_9_judge_29 (k := ?_)))
        rw [nI_1, f4_or1]; exact next _
      | false =>
        rw [hb, Bool.or_false] at next
        refine kb_9_judge_22 (kf := fun z => absurd rfl z) (kt := fun _ => kb_9_judge_29 (k := ?_))
        rw [nI_1]; exact next _
  refine am_enter rfl (by simp [Value.category]) (Nat.le_of_ble_eq_true rfl) (kb_9_judge_0 (k := ?_))
  have := loopA ns 0 none (by omega)
  rw [nI_0, show am_f4 (pl_ex pA 0) false false false = 0 from (by decide : am_f4 false false false false = 0)] at this
  exact this
theorem sp_11_lead {k : Nat} (hP : pl_M (am_A σ 16 3) nv ns nb K T na sg fm cf cn g sf) (hV : mo_V σ nv ns nb lo wd N) (hk : k < K) (hK : K ≤ 8) : am_C true ya_11_lead (d + 3) [.ref (am_oid 16), .int (nI k)] σ (fun r τ => τ = σ ∧ r = some (.int (am_oI (-1) (pl_nx nv lo wd sg fm cf cn g sf (am_A σ 16 24) k)))) := by
  obtain ⟨⟨k1, k2, k3, k4⟩, v0, -, -, hb⟩ := id hV
  obtain ⟨t1, t2, t3⟩ := hP.2.2.2.2.1 k hk
  have e0 : (30 : Int32) + 17 * nI k = nI (30 + 17 * k) := by rw [show (30 : Int32) = nI 30 from rfl, show (17 : Int32) = nI 17 from rfl, nI_mul, nI_add]
  have e1 : nI (30 + 17 * k) + 1 = nI (30 + 17 * k + 1) := nI_1 _
  obtain ⟨x, hx⟩ : ∃ x : Nat → Int32, x = am_A σ 16 24 := ⟨_, rfl⟩
  refine am_enter rfl (by simp [Value.category]) (Nat.le_of_ble_eq_true rfl) ?_
  refine kb_11_lead_0 (hi0 := by rw [e0]; exact vp_in_nI (by omega) (by omega)) (hi1 := by rw [e0, e1]; exact vp_in_nI (by omega) (by omega)) (hC := by
    rw [e0, e1, nI_clamp (show 30 + 17 * k < 2 ^ 31 by omega), nI_clamp (show 30 + 17 * k + 1 < 2 ^ 31 by omega), t1, t2]
    exact sp_11_holdsAll hP k1 v0 (show 8 + k < 32 by omega)) (k := fun r τ hr => ?_)
  obtain ⟨hτ, rfl⟩ := hr
  rw [hτ, e0, ← hx]
  cases hc : pl_cd nv sg fm cf cn x (8 + k) with
  | false =>
    have eV : pl_nx nv lo wd sg fm cf cn g sf x k = none := by unfold pl_nx; rw [hc]; rfl
    rw [eV]
    exact kb_11_lead_26 (kt := fun z => absurd rfl z) (kf := fun _ => kb_11_lead_29 ⟨rfl, rfl⟩)
  | true =>
    obtain ⟨f, hf⟩ : ∃ f : Nat → Int, f = fun v => (pl_wv lo wd nv g sf x k v).toInt := ⟨_, rfl⟩
    have eV : pl_nx nv lo wd sg fm cf cn g sf x k = wl_s lo wd f nv := by unfold pl_nx; rw [hc, hf]; rfl
    rw [eV]
    refine kb_11_lead_26 (kt := fun _ => kb_11_lead_31 (k := ?_)) (kf := fun z => absurd z (show ¬ am_bI true = 0 by decide))
    have loop : ∀ (j v a : Nat) (a5 a6 : Option Value), v + j = nv → wl_s lo wd f v = some a → am_T true ya_11_lead (d + 3) (fun r τ => τ = σ ∧ r = some (.int (am_oI (-1) (wl_s lo wd f nv)))) 36 [some (.ref (am_oid 16)), some (.int (nI k)), some (.int (nI (30 + 17 * k))), some (.int (nI a)), some (.int (nI v)), a5, a6] [] σ := by
      intro j
      induction j with
      | zero =>
        intro v a a5 a6 hv ha
        have : v = nv := by omega
        subst this
        exact kb_11_lead_36 (kt := fun _ => kb_11_lead_131 ⟨rfl, by rw [ha]; rfl⟩) (kf := fun z => absurd (by rw [v0]; exact nI_le (by omega) (by omega)) z)
      | succ j ih =>
        intro v a a5 a6 hv ha
        obtain ⟨l1, l2, l3⟩ := k2 v (by omega)
        obtain ⟨q1, q2⟩ := t3 v (by omega)
        have es : wl_s lo wd f (v + 1) = if lo v ≤ f v ∧ f v < lo v + wd v then some (a * wd v + (f v - lo v).toNat) else none := by
          show (match wl_s lo wd f v with | none => none | some a => _) = _
          rw [ha]
        have e2 : nI (30 + 17 * k) + 2 + 5 * nI v = nI (30 + 17 * k + 2 + 5 * v) := by rw [show (2 : Int32) = nI 2 from rfl, show (5 : Int32) = nI 5 from rfl, nI_mul, nI_add, nI_add]
        have c2 : (nI (30 + 17 * k + 2 + 5 * v)).toNatClampNeg = 30 + 17 * k + 2 + 5 * v := nI_clamp (by omega)
        have out : ∀ b5 b6 : Option Value, ¬ (lo v ≤ f v ∧ f v < lo v + wd v) → am_T true ya_11_lead (d + 3) (fun r τ => τ = σ ∧ r = some (.int (am_oI (-1) (wl_s lo wd f nv)))) 111 [some (.ref (am_oid 16)), some (.int (nI k)), some (.int (nI (30 + 17 * k))), some (.int (nI a)), some (.int (nI v)), b5, b6] [] σ := fun b5 b6 hcc => by
          rw [if_neg hcc] at es
          have := wl_s_none es j
          rw [show v + 1 + j = nv by omega] at this
          exact kb_11_lead_111 ⟨rfl, by rw [this]; rfl⟩
        have go : ∀ (y : Int32) (b6 : Option Value), y = pl_wv lo wd nv g sf x k v → am_T true ya_11_lead (d + 3) (fun r τ => τ = σ ∧ r = some (.int (am_oI (-1) (wl_s lo wd f nv)))) 86 [some (.ref (am_oid 16)), some (.int (nI k)), some (.int (nI (30 + 17 * k))), some (.int (nI a)), some (.int (nI v)), some (.int (nI (30 + 17 * k + 2 + 5 * v))), b6] [.int y] σ := by
          intro y b6 hy
          have ef : f v = y.toInt := by rw [hf, hy]
          have en := ld_n (y := y) (l := lo v) (w := wd v) l1 l2 l3
          rw [← ef] at en
          refine kb_11_lead_86 (hC := sp_11_least hV (show v < nv by omega)) (k := fun r τ1 hr => ?_)
          obtain ⟨hτ1, rfl⟩ := hr
          rw [hτ1]
          refine kb_11_lead_92 (kt := fun z => out _ _ (fun w => ((en.symm ▸ w : ¬ (y - iI (lo v) < 0) ∧ y - iI (lo v) < nI (wd v))).1 z)) (kf := fun z => ?_)
          refine kb_11_lead_100 (hC := sp_11_wide hV (show v < nv by omega)) (k := fun r τ2 hr => ?_)
          obtain ⟨hτ2, rfl⟩ := hr
          rw [hτ2]
          refine kb_11_lead_108 (kt := fun w => ?_) (kf := fun w => out _ _ (fun u => w ((en.symm ▸ u : ¬ (y - iI (lo v) < 0) ∧ y - iI (lo v) < nI (wd v))).2))
          have hin : lo v ≤ f v ∧ f v < lo v + wd v := by rw [← en]; exact ⟨z, w⟩
          rw [if_pos hin] at es
          refine kb_11_lead_113 (hC := sp_11_wide hV (show v < nv by omega)) (k := fun r τ3 hr => ?_)
          obtain ⟨hτ3, rfl⟩ := hr
          rw [hτ3]
          refine kb_11_lead_120 (k := ?_)
          have ev : nI a * nI (wd v) + (y - iI (lo v)) = nI (a * wd v + (f v - lo v).toNat) := by
            rw [nI_mul, ← nI_add]
            congr 1
            rw [← iI_of y, iI_sub, ← ef, ← iI_n]
            congr 1
            omega
          rw [ev, nI_1]
          exact ih (v + 1) _ _ _ (by omega) es
        refine kb_11_lead_36 (kt := fun z => absurd z (by rw [v0]; exact nI_ge (by omega) (by omega))) (kf := fun _ => ?_)
        refine kb_11_lead_47 (hi0 := by rw [e2]; exact vp_in_nI (by omega) (by omega)) (kt := fun z => ?_) (kf := fun z => ?_)
        · rw [e2, c2, q1] at z
          rw [e2]
          have z' : g (3 * k + v) = false := by
            cases hg : g (3 * k + v) with
            | false => rfl
            | true => rw [hg] at z; exact absurd rfl z
          refine kb_11_lead_79 (hi0 := vp_in_nI (by omega) (by omega)) (k := go _ _ ?_)
          rw [nI_clamp (show v < 2 ^ 31 by omega), ← hx]
          unfold pl_wv
          rw [z']; rfl
        · rw [e2, c2, q1] at z
          rw [e2]
          have z' : g (3 * k + v) = true := by
            cases hg : g (3 * k + v) with
            | true => rfl
            | false => rw [hg] at z; exact absurd z (by decide)
          refine kb_11_lead_68 (hC := by
            rw [nI_1]
            exact sp_11_sumAt k1 (by omega) v0 (q2 z')) (k := fun r τ1 hr => ?_)
          obtain ⟨hτ1, rfl⟩ := hr
          rw [hτ1]
          refine kb_11_lead_76 (k := go _ _ ?_)
          rw [← hx]
          unfold pl_wv
          rw [z']; rfl
    have := loop nv 0 0 none none (by omega) rfl
    rw [nI_0] at this
    exact this
end JUDGE
