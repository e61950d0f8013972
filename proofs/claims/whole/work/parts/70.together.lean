/-! what all tests that hold together give: the values -/
abbrev tg_T : Type := Int32 × Int32
def tg_kp (x : Int32) (p : tg_T) : tg_T := (p.1 &&& x, p.2 &&& (x ^^^ -1))
def tg_so (x : Int32) (p : tg_T) : Bool := decide (x &&& p.1 = p.1) && decide (x &&& p.2 = 0)
def tg_st (tb : Nat → Int32) (fl : Nat → Nat → Bool) : Nat → tg_T → tg_T
  | 0, p => p
  | n + 1, p => if fl n 0 = true then tg_kp (tb n) (tg_st tb fl n p) else tg_st tb fl n p
def tg_k (tb : Nat → Int32) (nx : Nat → Nat → Option Nat) (s : Nat) : Nat → tg_T → tg_T
  | 0, p => p
  | k + 1, p => match nx s k with
    | none => tg_k tb nx s k p
    | some t => tg_kp (tb t) (tg_k tb nx s k p)
def tg_ps (tb : Nat → Int32) (nx : Nat → Nat → Option Nat) (K : Nat) : Nat → tg_T → tg_T
  | 0, p => p
  | n + 1, p => if tg_so (tb n) (tg_ps tb nx K n p) = true then tg_k tb nx n K (tg_ps tb nx K n p) else tg_ps tb nx K n p
def tg_rn (f : tg_T → tg_T) : Nat → tg_T → tg_T
  | 0, p => p
  | n + 1, p => if f p = p then p else tg_rn f n (f p)
def tg_sz (p : tg_T) : Nat := am_cn (bt p.1) 32 + am_cn (bt p.2) 32
def tg_le (p' p : tg_T) : Prop := (∀ i, bt p'.1 i = true → bt p.1 i = true) ∧ ∀ i, bt p'.2 i = true → bt p.2 i = true
theorem tg_le.rf (p : tg_T) : tg_le p p := ⟨fun _ h => h, fun _ h => h⟩
theorem tg_le.tr {p q r : tg_T} (h : tg_le p q) (h' : tg_le q r) : tg_le p r := ⟨fun i z => h'.1 i (h.1 i z), fun i z => h'.2 i (h.2 i z)⟩
theorem tg_kp_le (x : Int32) (p : tg_T) : tg_le (tg_kp x p) p := by
  refine ⟨fun i h => ?_, fun i h => ?_⟩
  · unfold tg_kp at h; rw [b_and] at h; exact (Bool.and_eq_true_iff.mp h).1
  · unfold tg_kp at h; rw [b_and] at h; exact (Bool.and_eq_true_iff.mp h).1
theorem tg_k_le (tb : Nat → Int32) (nx : Nat → Nat → Option Nat) (s k : Nat) (p : tg_T) : tg_le (tg_k tb nx s k p) p := by
  induction k with
  | zero => exact tg_le.rf p
  | succ k ih =>
    unfold tg_k
    split
    · exact ih
    · exact (tg_kp_le _ _).tr ih
theorem tg_ps_le (tb : Nat → Int32) (nx : Nat → Nat → Option Nat) (K n : Nat) (p : tg_T) : tg_le (tg_ps tb nx K n p) p := by
  induction n with
  | zero => exact tg_le.rf p
  | succ n ih =>
    unfold tg_ps
    split
    · exact (tg_k_le _ _ _ _ _).tr ih
    · exact ih
theorem tg_st_le (tb : Nat → Int32) (fl : Nat → Nat → Bool) (n : Nat) (p : tg_T) : tg_le (tg_st tb fl n p) p := by
  induction n with
  | zero => exact tg_le.rf p
  | succ n ih =>
    unfold tg_st
    split
    · exact (tg_kp_le _ _).tr ih
    · exact ih
theorem tg_le.sz {p q : tg_T} (h : tg_le p q) : tg_sz p ≤ tg_sz q := Nat.add_le_add (am_cn_mono h.1 32) (am_cn_mono h.2 32)
theorem b_diff {x y : Int32} (h : x ≠ y) : ∃ i, i < 32 ∧ bt x i ≠ bt y i := by
  refine Classical.byContradiction (fun z => h (b_ext (fun i hi => ?_)))
  refine Classical.byContradiction (fun c => z ⟨i, hi, c⟩)
theorem b_lt {x y : Int32} (h : x ≠ y) (hm : ∀ i, bt x i = true → bt y i = true) : am_cn (bt x) 32 + 1 ≤ am_cn (bt y) 32 := by
  obtain ⟨i, hi, hd⟩ := b_diff h
  refine am_cn_lt hm hi ?_ ?_
  · cases hx : bt x i
    · rfl
    · exact absurd (by rw [hx, hm i hx]) hd
  · cases hy : bt y i
    · cases hx : bt x i
      · exact absurd (by rw [hx, hy]) hd
      · have := hm i hx; rw [hy] at this; exact this
    · rfl
theorem tg_le.lt {p q : tg_T} (h : tg_le p q) (hn : p ≠ q) : tg_sz p + 1 ≤ tg_sz q := by
  have m1 := am_cn_mono h.1 32
  have m2 := am_cn_mono h.2 32
  unfold tg_sz
  by_cases c : p.1 = q.1
  · have c2 : p.2 ≠ q.2 := fun z => hn (Prod.ext c z)
    have := b_lt c2 h.2
    omega
  · have := b_lt c h.1
    omega
def tg_al (T : Nat) : Int32 := (1 <<< (nI T &&& 31)) - 1
theorem tg_al_bt : ∀ T, T ≤ 16 → ∀ i, i < 32 → bt (tg_al T) i = decide (i < T) := by decide +kernel
theorem tg_al_sz : ∀ T, T ≤ 16 → am_cn (bt (tg_al T)) 32 = T := by decide +kernel
def tg_fin (N K T : Nat) (tb : Nat → Int32) (fl : Nat → Nat → Bool) (nx : Nat → Nat → Option Nat) : tg_T := tg_rn (tg_ps tb nx K N) 33 (tg_st tb fl N (tg_al T, tg_al T))
theorem tg_st_sz {N T : Nat} {tb : Nat → Int32} {fl : Nat → Nat → Bool} (hT : T ≤ 16) : tg_sz (tg_st tb fl N (tg_al T, tg_al T)) ≤ 32 := by
  refine Nat.le_trans (tg_st_le tb fl N (tg_al T, tg_al T)).sz ?_
  unfold tg_sz
  rw [tg_al_sz T hT]
  omega
/-- two int fields of an object -/
def am_s2 (σ : am_St) (o k1 k2 : Nat) (p : tg_T) : am_St := am_sI (am_sI σ o k1 p.1) o k2 p.2
theorem am_s2_s2 (σ : am_St) (o k1 k2 : Nat) (p : tg_T) (a b : Int32) : am_sI (am_sI (am_s2 σ o k1 k2 p) o k1 a) o k2 b = am_s2 σ o k1 k2 (a, b) := by
  unfold am_s2 am_sI
  refine Prod.ext ?_ rfl
  funext o' k'
  by_cases h1 : k' = k2 ∧ o' = o
  · simp [h1]
  · by_cases h2 : k' = k1 ∧ o' = o
    · simp [h1, h2]
    · simp [h1, h2]
theorem am_s2_1 (σ : am_St) (o k1 k2 : Nat) (p : tg_T) (h : k1 ≠ k2) : am_I (am_s2 σ o k1 k2 p) o k1 = p.1 := by unfold am_s2; rw [am_I_sI, if_neg (fun z => h z.1), am_I_sI, if_pos ⟨rfl, rfl⟩]
theorem am_s2_2 (σ : am_St) (o k1 k2 : Nat) (p : tg_T) : am_I (am_s2 σ o k1 k2 p) o k2 = p.2 := by unfold am_s2; rw [am_I_sI, if_pos ⟨rfl, rfl⟩]
theorem am_s2_n (σ : am_St) (o k1 k2 : Nat) (p : tg_T) {o' k' : Nat} (h : ¬ o' = o) : am_I (am_s2 σ o k1 k2 p) o' k' = am_I σ o' k' := by unfold am_s2; rw [am_I_sI, if_neg (fun z => h z.2), am_I_sI, if_neg (fun z => h z.2)]
theorem am_s2_A (σ : am_St) (o k1 k2 : Nat) (p : tg_T) (o' k' : Nat) : am_A (am_s2 σ o k1 k2 p) o' k' = am_A σ o' k' := rfl
section TOG
variable {d N K T : Nat} {tb : Nat → Int32} {fl : Nat → Nat → Bool} {nx : Nat → Nat → Option Nat} {σ : am_St}
theorem am_Wo.s2 (hW : am_Wo σ N K T tb fl nx) (p : tg_T) : am_Wo (am_s2 σ 15 2 3 p) N K T tb fl nx := hW.same (fun k => am_s2_n _ _ _ _ _ (by decide)) (fun k => rfl)
theorem sp_3_keepOf (hW : am_Wo σ N K T tb fl nx) {s : Nat} (hs : s < N) (p : tg_T) : am_C false ya_3_keepOf d [.ref (am_oid 15), .int (nI s)] (am_s2 σ 15 2 3 p) (fun r τ => r = none ∧ τ = am_s2 σ 15 2 3 (tg_kp (tb s) p)) := by
  have hN := hW.1
  have v : vp_in (nI s) 600 := vp_in_nI (by omega) (by omega)
  refine am_enter rfl (by simp [Value.category]) (Nat.le_of_ble_eq_true rfl) ?_
  refine kb_3_keepOf_0 (hi0 := v) (hi1 := v) (hq := ⟨rfl, ?_⟩)
  rw [am_s2_1 _ _ _ _ _ (by decide), am_s2_2, am_s2_A, nI_clamp (by omega), (hW.2.2.2.2.2.2.1 s hs).1, am_s2_s2]
  rfl
theorem sp_3_isAllSo (hW : am_Wo σ N K T tb fl nx) {s : Nat} (hs : s < N) (p : tg_T) (h2 : am_I σ 15 2 = p.1) (h3 : am_I σ 15 3 = p.2) : am_C false ya_3_isAllSo d [.ref (am_oid 15), .int (nI s)] σ (fun r τ => τ = σ ∧ r = some (.int (am_bI (tg_so (tb s) p)))) := by
  have hN := hW.1
  have e := (hW.2.2.2.2.2.2.1 s hs).1
  have c : am_A σ 4 10 (nI s).toNatClampNeg = tb s := by rw [nI_clamp (by omega)]; exact e
  refine am_enter rfl (by simp [Value.category]) (Nat.le_of_ble_eq_true rfl) ?_
  refine kb_3_isAllSo_0 (hi0 := vp_in_nI (by omega) (by omega)) (kt := fun z => ?_) (kf := fun z => ?_)
  · rw [c, h2] at z
    refine kb_3_isAllSo_36 (k := kb_3_isAllSo_37 (hb0 := rfl) (hq := ⟨rfl, ?_⟩))
    unfold tg_so
    rw [decide_eq_false z]; rfl
  · rw [c, h2] at z
    refine kb_3_isAllSo_23 (kt := fun y => ?_) (kf := fun y => ?_)
    · rw [c, h3] at y
      refine kb_3_isAllSo_36 (k := kb_3_isAllSo_37 (hb0 := rfl) (hq := ⟨rfl, ?_⟩))
      unfold tg_so
      rw [decide_eq_false y, Bool.and_false]; rfl
    · rw [c, h3] at y
      refine kb_3_isAllSo_32 (k := kb_3_isAllSo_37 (hb0 := rfl) (hq := ⟨rfl, ?_⟩))
      unfold tg_so
      rw [decide_eq_true y, decide_eq_true z]; rfl
theorem am_ix8 (s k : Nat) : nI s * 8 + nI k = nI (8 * s + k) := by rw [show (8 : Int32) = nI 8 from rfl, nI_mul, nI_add, Nat.mul_comm]
theorem sp_3_keepOverSteps (hW : am_Wo σ N K T tb fl nx) (p : tg_T) : am_C false ya_3_keepOverSteps (d + 1) [.ref (am_oid 15)] (am_s2 σ 15 2 3 p) (fun r τ => r = none ∧ τ = am_s2 σ 15 2 3 (tg_ps tb nx K N p)) := by
  obtain ⟨w1, w2, w3, w4, w5, w6, w7, w8⟩ := id hW
  have i45 : ∀ p, am_I (am_s2 σ 15 2 3 p) 4 5 = nI N := fun p => by rw [am_s2_n _ _ _ _ _ (by decide)]; exact w4
  have i43 : ∀ p, am_I (am_s2 σ 15 2 3 p) 4 3 = nI K := fun p => by rw [am_s2_n _ _ _ _ _ (by decide)]; exact w5
  have loop : ∀ (j s : Nat), s + j = N → ∀ (a2 a3 : Option Value), am_T false ya_3_keepOverSteps (d + 1) (fun r τ => r = none ∧ τ = am_s2 σ 15 2 3 (tg_ps tb nx K N p)) 2 [some (.ref (am_oid 15)), some (.int (nI s)), a2, a3] [] (am_s2 σ 15 2 3 (tg_ps tb nx K s p)) := by
    intro j
    induction j with
    | zero =>
      intro s hs a2 a3
      have : s = N := by omega
      subst this
      refine kb_3_keepOverSteps_2 (kt := fun _ => kb_3_keepOverSteps_70 ⟨rfl, rfl⟩) (kf := fun z => absurd ?_ z)
      rw [i45]; exact nI_le (by omega) (by omega)
    | succ j ih =>
      intro s hs a2 a3
      obtain ⟨p', hp'⟩ : ∃ p', p' = tg_ps tb nx K s p := ⟨_, rfl⟩
      rw [← hp']
      have e1 : tg_ps tb nx K (s + 1) p = if tg_so (tb s) p' = true then tg_k tb nx s K p' else p' := by rw [hp']; rfl
      refine kb_3_keepOverSteps_2 (kt := fun z => absurd z ?_) (kf := fun _ => ?_)
      · rw [i45]; exact nI_ge (by omega) (by omega)
      refine kb_3_keepOverSteps_13 (hC := sp_3_isAllSo (hW.s2 p') (show s < N by omega) p' (am_s2_1 _ _ _ _ _ (by decide)) (am_s2_2 _ _ _ _ _)) (k := fun r τ hr => ?_)
      obtain ⟨rfl, rfl⟩ := hr
      have next := ih (s + 1) (by omega)
      cases hc : tg_so (tb s) p' with
      | false =>
        rw [e1, hc] at next
        refine kb_3_keepOverSteps_18 (kt := fun _ => kb_3_keepOverSteps_64 (k := ?_)) (kf := fun z => absurd rfl z)
        rw [nI_1]; exact next _ _
      | true =>
        rw [e1, hc, if_pos rfl] at next
        refine kb_3_keepOverSteps_18 (kt := fun z => absurd z (by decide)) (kf := fun _ => kb_3_keepOverSteps_21 (k := ?_))
        have inner : ∀ (m k : Nat), k + m = K → ∀ a3 : Option Value, am_T false ya_3_keepOverSteps (d + 1) (fun r τ => r = none ∧ τ = am_s2 σ 15 2 3 (tg_ps tb nx K N p)) 23 [some (.ref (am_oid 15)), some (.int (nI s)), some (.int (nI k)), a3] [] (am_s2 σ 15 2 3 (tg_k tb nx s k p')) := by
          intro m
          induction m with
          | zero =>
            intro k hk a3
            have : k = K := by omega
            subst this
            refine kb_3_keepOverSteps_23 (kt := fun _ => kb_3_keepOverSteps_64 (k := ?_)) (kf := fun z => absurd ?_ z)
            · rw [nI_1]; exact next _ _
            · rw [i43]; exact nI_le (by omega) (by omega)
          | succ m ihm =>
            intro k hk a3
            obtain ⟨g1, g2⟩ := w8 s (by omega) k (by omega)
            have eT : am_A (am_s2 σ 15 2 3 (tg_k tb nx s k p')) 4 11 (nI s * 8 + nI k).toNatClampNeg = am_oI (-2) (nx s k) := by rw [am_ix8, nI_clamp (by omega)]; exact g1
            refine kb_3_keepOverSteps_23 (kt := fun z => absurd z ?_) (kf := fun _ => ?_)
            · rw [i43]; exact nI_ge (by omega) (by omega)
            refine kb_3_keepOverSteps_34 (hi0 := by rw [am_ix8]; exact vp_in_nI (by omega) (by omega)) (kt := fun z => ?_) (kf := fun z => ?_)
            · rw [eT, am_oI_neg g2 w1 _ am_neg2] at z
              refine kb_3_keepOverSteps_58 (k := ?_)
              rw [nI_1]
              have e : tg_k tb nx s (k + 1) p' = tg_k tb nx s k p' := by
                show (match nx s k with | none => _ | some t => _) = _
                rw [z]
              have := ihm (k + 1) (by omega)
              rw [e] at this
              exact this _
            · rw [eT, am_oI_neg g2 w1 _ am_neg2] at z
              rw [eT]
              cases hx : nx s k with
              | none => exact absurd hx z
              | some t =>
                have e : tg_k tb nx s (k + 1) p' = tg_kp (tb t) (tg_k tb nx s k p') := by
                  show (match nx s k with | none => _ | some t => _) = _
                  rw [hx]
                have := ihm (k + 1) (by omega)
                rw [e] at this
                refine kb_3_keepOverSteps_53 (hC := sp_3_keepOf hW (g2 t hx) _) (k := fun r τ hr => ?_)
                obtain ⟨rfl, rfl⟩ := hr
                refine kb_3_keepOverSteps_58 (k := ?_)
                rw [nI_1]
                exact this _
        have := inner K 0 (by omega) a3
        rw [nI_0] at this
        exact this
  refine am_enter rfl (by simp [Value.category]) (Nat.le_of_ble_eq_true rfl) (kb_3_keepOverSteps_0 (k := ?_))
  have := loop N 0 (by omega) none none
  rw [nI_0] at this
  exact this
theorem sp_9_allTests (hW : am_Wo σ N K T tb fl nx) : am_C false ya_9_allTests d [.ref (am_oid 4)] σ (fun r τ => τ = σ ∧ r = some (.int (tg_al T))) := by
  refine am_enter rfl (by simp [Value.category]) (Nat.le_of_ble_eq_true rfl) ?_
  refine kb_9_allTests_0 (hq := ⟨rfl, ?_⟩)
  rw [hW.2.2.2.2.2.1]; rfl
/-- what is kept of TOGETHER -/
def tg_ok (σ : am_St) (N K T : Nat) (tb : Nat → Int32) (fl : Nat → Nat → Bool) (nx : Nat → Nat → Option Nat) : Prop := am_I σ 15 1 = 0 ∨ (am_I σ 15 1 = 1 ∧ am_I σ 15 2 = (tg_fin N K T tb fl nx).1 ∧ am_I σ 15 3 = (tg_fin N K T tb fl nx).2)
theorem sp_3_keepTogether (hW : am_Wo σ N K T tb fl nx) (hk : tg_ok σ N K T tb fl nx) : am_C false ya_3_keepTogether (d + 2) [.ref (am_oid 15)] σ (fun r τ => r = none ∧ am_On 15 σ τ ∧ am_I τ 15 1 = 1 ∧ am_I τ 15 2 = (tg_fin N K T tb fl nx).1 ∧ am_I τ 15 3 = (tg_fin N K T tb fl nx).2) := by
  obtain ⟨w1, w2, w3, w4, w5, w6, w7, w8⟩ := id hW
  have i45 : ∀ p, am_I (am_s2 σ 15 2 3 p) 4 5 = nI N := fun p => by rw [am_s2_n _ _ _ _ _ (by decide)]; exact w4
  generalize hQ : (fun (r : Option Value) (τ : am_St) => r = none ∧ am_On 15 σ τ ∧ am_I τ 15 1 = 1 ∧ am_I τ 15 2 = (tg_fin N K T tb fl nx).1 ∧ am_I τ 15 3 = (tg_fin N K T tb fl nx).2) = Q
  refine am_enter rfl (by simp [Value.category]) (Nat.le_of_ble_eq_true rfl) ?_
  refine kb_3_keepTogether_0 (kt := fun z => ?_) (kf := fun z => ?_)
  · -- passes
    have run : ∀ (f i : Nat) (p : tg_T), tg_sz p + 1 ≤ f → i + f = 33 → tg_rn (tg_ps tb nx K N) f p = tg_fin N K T tb fl nx → ∀ (a3 a4 : Option Value), am_T false ya_3_keepTogether (d + 2) Q 72 [some (.ref (am_oid 15)), some (.int 1), some (.int (nI i)), a3, a4] [] (am_s2 σ 15 2 3 p) := by
      intro f
      induction f with
      | zero => intro i p h; omega
      | succ f ih =>
        intro i p h1 h2 h3 a3 a4
        have e32 : (32 : Int32) = nI 32 := by decide
        refine kb_3_keepTogether_72 (kt := fun z => absurd z (by decide)) (kf := fun _ => ?_)
        refine kb_3_keepTogether_76 (kt := fun z => absurd z ?_) (kf := fun _ => ?_)
        · rw [e32]; exact nI_nlt (by omega) (by omega)
        refine kb_3_keepTogether_82 (hC := sp_3_keepOverSteps hW p) (k := fun r τ hr => ?_)
        obtain ⟨rfl, rfl⟩ := hr
        rw [am_s2_1 _ _ _ _ _ (by decide), am_s2_2]
        have hle := tg_ps_le tb nx K N p
        have more : tg_ps tb nx K N p ≠ p → am_T false ya_3_keepTogether (d + 2) Q 114 [some (.ref (am_oid 15)), some (.int 1), some (.int (nI i)), some (.int p.1), some (.int p.2)] [] (am_s2 σ 15 2 3 (tg_ps tb nx K N p)) := fun hn => by
          have hlt := hle.lt hn
          refine kb_3_keepTogether_114 (k := kb_3_keepTogether_119 (k := ?_))
          rw [nI_1]
          refine ih (i + 1) _ (by omega) (by omega) ?_ _ _
          rw [← h3]
          show _ = (if tg_ps tb nx K N p = p then p else tg_rn (tg_ps tb nx K N) f (tg_ps tb nx K N p))
          rw [if_neg hn]
        refine kb_3_keepTogether_97 (kt := fun y => ?_) (kf := fun y => ?_)
        · rw [am_s2_1 _ _ _ _ _ (by decide)] at y
          exact more (fun c => y (by rw [c]))
        · rw [am_s2_1 _ _ _ _ _ (by decide)] at y
          refine kb_3_keepTogether_105 (kt := fun x => ?_) (kf := fun x => ?_)
          · rw [am_s2_2] at x
            have hp : tg_ps tb nx K N p = p := Prod.ext y x
            have hf : p = tg_fin N K T tb fl nx := by
              rw [← h3]
              show _ = (if tg_ps tb nx K N p = p then p else _)
              rw [if_pos hp]
            rw [hp]
            refine kb_3_keepTogether_118 (k := kb_3_keepTogether_119 (k := kb_3_keepTogether_72 (kt := fun _ => kb_3_keepTogether_126 ?_) (kf := fun c => absurd rfl c)))
            rw [← hQ, ← hf]
            refine ⟨rfl, ⟨fun o k ho => ?_, fun o k ho => rfl, rfl⟩, ?_, ?_, ?_⟩
            · rw [am_I_sI, if_neg (fun c => ho c.2), am_s2_n _ _ _ _ _ ho]
            · rw [am_I_sI, if_pos ⟨rfl, rfl⟩]
            · rw [am_I_sI, if_neg (by simp), am_s2_1 _ _ _ _ _ (by decide)]
            · rw [am_I_sI, if_neg (by simp), am_s2_2]
          · rw [am_s2_2] at x
            exact more (fun c => x (by rw [c]))
    have starts : ∀ (j s : Nat), s + j = N → ∀ (a2 a3 a4 : Option Value), am_T false ya_3_keepTogether (d + 2) Q 32 [some (.ref (am_oid 15)), some (.int (nI s)), a2, a3, a4] [] (am_s2 σ 15 2 3 (tg_st tb fl s (tg_al T, tg_al T))) := by
      intro j
      induction j with
      | zero =>
        intro s hs a2 a3 a4
        have : s = N := by omega
        subst this
        refine kb_3_keepTogether_32 (kt := fun _ => kb_3_keepTogether_68 (k := ?_)) (kf := fun z => absurd ?_ z)
        · have := run 33 0 (tg_st tb fl s (tg_al T, tg_al T)) (by have := tg_st_sz (N := s) (tb := tb) (fl := fl) w3; omega) (by omega) rfl a3 a4
          rw [nI_0] at this
          exact this
        · rw [i45]; exact nI_le (by omega) (by omega)
      | succ j ih =>
        intro s hs a2 a3 a4
        obtain ⟨g1, g2⟩ := w7 s (by omega)
        have eF : am_A (am_s2 σ 15 2 3 (tg_st tb fl s (tg_al T, tg_al T))) 4 9 (nI s).toNatClampNeg = am_f4 (fl s 0) (fl s 1) (fl s 2) (fl s 3) := by rw [nI_clamp (by omega)]; exact g2
        have e1 : tg_st tb fl (s + 1) (tg_al T, tg_al T) = if fl s 0 = true then tg_kp (tb s) (tg_st tb fl s (tg_al T, tg_al T)) else tg_st tb fl s (tg_al T, tg_al T) := rfl
        have next := ih (s + 1) (by omega)
        refine kb_3_keepTogether_32 (kt := fun z => absurd z ?_) (kf := fun _ => ?_)
        · rw [i45]; exact nI_ge (by omega) (by omega)
        refine kb_3_keepTogether_43 (hi0 := vp_in_nI (by omega) (by omega)) (kt := fun y => ?_) (kf := fun y => ?_)
        · rw [eF, (am_f4_and _ _ _ _).1] at y
          rw [e1, if_neg (by rw [y]; decide)] at next
          refine kb_3_keepTogether_62 (k := ?_)
          rw [nI_1]; exact next _ _ _
        · rw [eF, (am_f4_and _ _ _ _).1] at y
          rw [e1, if_pos (by simpa using y)] at next
          refine kb_3_keepTogether_57 (hC := sp_3_keepOf hW (show s < N by omega) _) (k := fun r τ hr => ?_)
          obtain ⟨rfl, rfl⟩ := hr
          refine kb_3_keepTogether_62 (k := ?_)
          rw [nI_1]; exact next _ _ _
    refine kb_3_keepTogether_8 (hC := sp_9_allTests hW) (k := fun r τ hr => ?_)
    obtain ⟨rfl, rfl⟩ := hr
    have hW2 : am_Wo (am_sI τ 15 2 (tg_al T)) N K T tb fl nx := hW.same (fun k => by rw [am_I_sI, if_neg (by simp)]) (fun k => rfl)
    refine kb_3_keepTogether_16 (hC := sp_9_allTests hW2) (k := fun r τ' hr => ?_)
    obtain ⟨rfl, rfl⟩ := hr
    refine kb_3_keepTogether_27 (k := ?_)
    have := starts N 0 (by omega) none none none
    rw [nI_0] at this
    exact this
  · refine kb_3_keepTogether_7 ?_
    rw [← hQ]
    rcases hk with h | ⟨h1, h2, h3⟩
    · exact absurd h z
    · exact ⟨rfl, ⟨fun _ _ _ => rfl, fun _ _ _ => rfl, rfl⟩, h1, h2, h3⟩
/-- a bad state for which all are so -/
def tg_bd (N : Nat) (tb : Nat → Int32) (fl : Nat → Nat → Bool) (p : tg_T) : Bool := (am_fd (fun s => fl s 1 && tg_so (tb s) p) N 0).isSome
theorem sp_3_excludesBad (hW : am_Wo σ N K T tb fl nx) (p : tg_T) (h2 : am_I σ 15 2 = p.1) (h3 : am_I σ 15 3 = p.2) : am_C false ya_3_excludesBad (d + 1) [.ref (am_oid 15)] σ (fun r τ => τ = σ ∧ r = some (.int (am_bI (!tg_bd N tb fl p)))) := by
  obtain ⟨w1, w2, w3, w4, w5, w6, w7, w8⟩ := id hW
  have loop : ∀ (j s : Nat), s + j = N → am_T false ya_3_excludesBad (d + 1) (fun r τ => τ = σ ∧ r = some (.int (am_bI (!(am_fd (fun s => fl s 1 && tg_so (tb s) p) j s).isSome)))) 2 [some (.ref (am_oid 15)), some (.int (nI s))] [] σ := by
    intro j
    induction j with
    | zero =>
      intro s hs
      refine kb_3_excludesBad_2 (kt := fun _ => kb_3_excludesBad_43 ⟨rfl, rfl⟩) (kf := fun z => absurd ?_ z)
      rw [w4]; exact nI_le (by omega) (by omega)
    | succ j ih =>
      intro s hs
      obtain ⟨g1, g2⟩ := w7 s (by omega)
      have eF : am_A σ 4 9 (nI s).toNatClampNeg = am_f4 (fl s 0) (fl s 1) (fl s 2) (fl s 3) := by rw [nI_clamp (by omega)]; exact g2
      have e1 : am_fd (fun s => fl s 1 && tg_so (tb s) p) (j + 1) s = if (fl s 1 && tg_so (tb s) p) = true then some s else am_fd (fun s => fl s 1 && tg_so (tb s) p) j (s + 1) := rfl
      rw [e1]
      have next := ih (s + 1) (by omega)
      refine kb_3_excludesBad_2 (kt := fun z => absurd z ?_) (kf := fun _ => ?_)
      · rw [w4]; exact nI_ge (by omega) (by omega)
      refine kb_3_excludesBad_13 (hi0 := vp_in_nI (by omega) (by omega)) (kt := fun y => ?_) (kf := fun y => ?_)
      · rw [eF, (am_f4_and _ _ _ _).2.1] at y
        rw [if_neg (by rw [y]; simp)]
        refine kb_3_excludesBad_37 (k := ?_)
        rw [nI_1]; exact next
      · rw [eF, (am_f4_and _ _ _ _).2.1] at y
        have y' : fl s 1 = true := by simpa using y
        refine kb_3_excludesBad_27 (hC := sp_3_isAllSo hW (show s < N by omega) p h2 h3) (k := fun r τ hr => ?_)
        obtain ⟨rfl, rfl⟩ := hr
        refine kb_3_excludesBad_32 (kt := fun x => ?_) (kf := fun x => ?_)
        · rw [am_bI_0] at x
          rw [if_neg (by rw [x]; simp)]
          refine kb_3_excludesBad_37 (k := ?_)
          rw [nI_1]; exact next
        · rw [am_bI_0] at x
          rw [if_pos (by rw [y']; simpa using x)]
          exact kb_3_excludesBad_35 ⟨rfl, rfl⟩
  refine am_enter rfl (by simp [Value.category]) (Nat.le_of_ble_eq_true rfl) (kb_3_excludesBad_0 (k := ?_))
  have := loop N 0 (by omega)
  rw [nI_0] at this
  exact this
end TOG
