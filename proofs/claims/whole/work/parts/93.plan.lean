/-! what a text tells: forms, atoms, conditions; how both sides evaluate them -/
/-- a form's sum over the first variables -/
def pl_ev (f x : Nat → Int32) : Nat → Int32
  | 0 => f 0
  | v + 1 => pl_ev f x v + f (1 + v) * x v
def pl_so (g e : Int32) : Bool := if g = 60 then decide (e < 0) else if g = 61 then decide (e = 0) else decide (0 < e)
/-- all of n from a on are so -/
def pl_al (p : Nat → Bool) (a : Nat) : Nat → Bool
  | 0 => true
  | n + 1 => pl_al p a n && p (a + n)
/-- one below n is so -/
def pl_ex (p : Nat → Bool) : Nat → Bool
  | 0 => false
  | n + 1 => pl_ex p n || p n
theorem pl_al_f {p : Nat → Bool} {a i : Nat} (h : p (a + i) = false) : ∀ j, pl_al p a (i + 1 + j) = false := by
  intro j
  induction j with
  | zero => show (pl_al p a i && p (a + i)) = false; rw [h, Bool.and_false]
  | succ j ih => show (pl_al p a (i + 1 + j) && _) = false; rw [ih, Bool.false_and]
theorem pl_ex_t {p : Nat → Bool} {i : Nat} (h : p i = true) : ∀ j, pl_ex p (i + 1 + j) = true := by
  intro j
  induction j with
  | zero => show (pl_ex p i || p i) = true; rw [h, Bool.or_true]
  | succ j ih => show (pl_ex p (i + 1 + j) || _) = true; rw [ih, Bool.true_or]
/-- an atom holds for values -/
def pl_at (nv : Nat) (sg : Nat → Int32) (fm : Nat → Nat → Int32) (x : Nat → Int32) (a : Nat) : Bool := pl_so (sg a) (pl_ev (fm a) x nv)
def pl_cd (nv : Nat) (sg : Nat → Int32) (fm : Nat → Nat → Int32) (cf cn : Nat → Nat) (x : Nat → Int32) (c : Nat) : Bool := pl_al (pl_at nv sg fm x) (cf c) (cn c)
def pl_wv (lo : Nat → Int) (wd : Nat → Nat) (nv : Nat) (g : Nat → Bool) (sf : Nat → Nat → Int32) (x : Nat → Int32) (k : Nat) : Nat → Int32 := fun v => if g (3 * k + v) = true then pl_ev (sf (3 * k + v)) x nv else x v
def pl_nx (nv : Nat) (lo : Nat → Int) (wd : Nat → Nat) (sg : Nat → Int32) (fm : Nat → Nat → Int32) (cf cn : Nat → Nat) (g : Nat → Bool) (sf : Nat → Nat → Int32) (x : Nat → Int32) (k : Nat) : Option Nat :=
  if pl_cd nv sg fm cf cn x (8 + k) = true then wl_s lo wd (fun v => (pl_wv lo wd nv g sf x k v).toInt) nv else none
/-- the class's plan -/
def pl_C (σ : am_St) (nv K na : Nat) (sg : Nat → Int32) (fm : Nat → Nat → Int32) (cf cn : Nat → Nat) (g : Nat → Bool) (sf : Nat → Nat → Int32) : Prop :=
  na ≤ 144 ∧ (∀ c, c < 32 → am_A σ 1 12 c = nI (cf c) ∧ am_A σ 1 13 c = nI (cf c + cn c) ∧ cf c + cn c ≤ na) ∧ (∀ a, a < na → am_A σ 1 11 a = sg a ∧ (sg a = 60 ∨ sg a = 61 ∨ sg a = 62) ∧ ∀ j, j < 4 → am_A σ 1 10 (4 * a + j) = fm a j) ∧ ∀ k, k < K → ∀ v, v < nv → am_A σ 1 15 (3 * k + v) = am_bI (g (3 * k + v)) ∧ (g (3 * k + v) = true → ∀ j, j < 4 → am_A σ 1 14 (4 * (3 * k + v) + j) = sf (3 * k + v) j)
/-- the reference's row -/
def pl_M (W : Nat → Int32) (nv ns nb K T na : Nat) (sg : Nat → Int32) (fm : Nat → Nat → Int32) (cf cn : Nat → Nat) (g : Nat → Bool) (sf : Nat → Nat → Int32) : Prop :=
  na ≤ 144 ∧ (∀ c, c < 32 → cf c + cn c ≤ na) ∧ (∀ c, c < ns → W (14 + 2 * c) = nI (cf c) ∧ W (14 + 2 * c + 1) = nI (cn c)) ∧ (∀ c, c < nb → W (22 + 2 * c) = nI (cf (4 + c)) ∧ W (22 + 2 * c + 1) = nI (cn (4 + c))) ∧ (∀ k, k < K → W (30 + 17 * k) = nI (cf (8 + k)) ∧ W (30 + 17 * k + 1) = nI (cn (8 + k)) ∧ ∀ v, v < nv → W (30 + 17 * k + 2 + 5 * v) = am_bI (g (3 * k + v)) ∧ (g (3 * k + v) = true → ∀ j, j < 4 → W (30 + 17 * k + 2 + 5 * v + 1 + j) = sf (3 * k + v) j)) ∧ (∀ t, t < T → W (166 + t) = nI (cf (16 + t)) ∧ cn (16 + t) = 1) ∧ ∀ a, a < na → W (182 + 5 * a) = sg a ∧ (sg a = 60 ∨ sg a = 61 ∨ sg a = 62) ∧ ∀ j, j < 4 → W (182 + 5 * a + 1 + j) = fm a j
section PLAN
variable {d nv ns nb N K T na : Nat} {lo : Nat → Int} {wd : Nat → Nat} {sg : Nat → Int32} {fm : Nat → Nat → Int32} {cf cn : Nat → Nat} {g : Nat → Bool} {sf : Nat → Nat → Int32} {x : Nat → Int32} {σ : am_St}
theorem sp_9_evaluate {o kr c n p s : Nat} {f : Nat → Int32} (h1 : am_k false o = c) (h2 : c < 12) (h3 : am_fk c kr = (3, 0, n)) (hn : n < 2 ^ 31) (hp : p + 4 ≤ n) (hnv : nv ≤ 3) (h0 : am_I σ 4 0 = nI nv) (hf : ∀ j, j < 4 → am_A σ o kr (p + j) = f j) (hs : s < 600) (hx : ∀ v, v < nv → am_A σ 4 8 (3 * s + v) = x v) : am_C false ya_9_evaluate d [.ref (am_oid 4), .ref (am_aid o kr), .int (nI p), .int (nI s)] σ (fun r τ => τ = σ ∧ r = some (.int (pl_ev f x nv))) := by
  have loop : ∀ (j v : Nat), v + j = nv → am_T false ya_9_evaluate d (fun r τ => τ = σ ∧ r = some (.int (pl_ev f x nv))) 8 [some (.ref (am_oid 4)), some (.ref (am_aid o kr)), some (.int (nI p)), some (.int (nI s)), some (.int (pl_ev f x v)), some (.int (nI v))] [] σ := by
    intro j
    induction j with
    | zero =>
      intro v hv
      have : v = nv := by omega
      subst this
      exact kb_9_evaluate_8 (kt := fun _ => kb_9_evaluate_48 ⟨rfl, rfl⟩) (kf := fun z => absurd (by rw [h0]; exact nI_le (by omega) (by omega)) z)
    | succ j ih =>
      intro v hv
      have e1 : nI p + 1 + nI v = nI (p + (1 + v)) := by rw [show (1 : Int32) = nI 1 from rfl, nI_add, nI_add, Nat.add_assoc]
      have e2 : nI s * 3 + nI v = nI (3 * s + v) := by rw [show (3 : Int32) = nI 3 from rfl, nI_mul, nI_add, Nat.mul_comm]
      refine kb_9_evaluate_8 (kt := fun z => absurd z (by rw [h0]; exact nI_ge (by omega) (by omega))) (kf := fun _ => ?_)
      refine kb_9_evaluate_17 (hkr1 := h1) (hlr1 := h2) (hfr1 := h3) (hi0 := by rw [e1]; exact vp_in_nI (by omega) (by omega)) (hi1 := by rw [e2]; exact vp_in_nI (by omega) (by omega)) (k := ?_)
      rw [e1, e2, nI_clamp (show p + (1 + v) < 2 ^ 31 by omega), nI_clamp (show 3 * s + v < 2 ^ 31 by omega), hf (1 + v) (by omega), hx v (by omega), nI_1]
      exact ih (v + 1) (by omega)
  refine am_enter rfl (by simp [Value.category]) (Nat.le_of_ble_eq_true rfl) ?_
  refine kb_9_evaluate_0 (hkr1 := h1) (hlr1 := h2) (hfr1 := h3) (hi0 := vp_in_nI (by omega) (by omega)) (k := ?_)
  have e0 : am_A σ o kr (nI p).toNatClampNeg = pl_ev f x 0 := by rw [nI_clamp (show p < 2 ^ 31 by omega)]; exact hf 0 (by omega)
  rw [e0]
  have := loop nv 0 (by omega)
  rw [nI_0] at this
  exact this
theorem pl_so_1 {q e : Int32} (hq : q = 60 ∨ q = 61 ∨ q = 62) : (q = 60 → pl_so q e = decide (e < 0)) ∧ (q = 61 → pl_so q e = decide (e = 0)) ∧ (q = 62 → pl_so q e = decide (0 < e)) := by
  refine ⟨fun h => ?_, fun h => ?_, fun h => ?_⟩
  · subst h; rfl
  · subst h; rfl
  · subst h; rfl
theorem i32_nlt (a b : Int32) : (¬ a ≤ b) = (b < a) := by
  rw [Int32.le_iff_toInt_le, Int32.lt_iff_toInt_lt]
  exact propext ⟨fun z => by omega, fun z => by omega⟩
theorem sp_9_isMet {c s : Nat} (hP : pl_C σ nv K na sg fm cf cn g sf) (hnv : nv ≤ 3) (h0 : am_I σ 4 0 = nI nv) (hc : c < 32) (hs : s < 600) (hx : ∀ v, v < nv → am_A σ 4 8 (3 * s + v) = x v) : am_C false ya_9_isMet (d + 1) [.ref (am_oid 4), .ref (am_oid 1), .int (nI c), .int (nI s)] σ (fun r τ => τ = σ ∧ r = some (.int (am_bI (pl_cd nv sg fm cf cn x c)))) := by
  obtain ⟨hna, hsl, hat, -⟩ := id hP
  obtain ⟨s1, s2, s3⟩ := hsl c hc
  have cc : (nI c).toNatClampNeg = c := nI_clamp (by omega)
  have vc : vp_in (nI c) 32 := vp_in_nI (by omega) (by omega)
  unfold pl_cd
  have loop : ∀ (j i : Nat) (a5 a6 a7 : Option Value), i + j = cn c → pl_al (pl_at nv sg fm x) (cf c) i = true → am_T false ya_9_isMet (d + 1) (fun r τ => τ = σ ∧ r = some (.int (am_bI (pl_al (pl_at nv sg fm x) (cf c) (cn c))))) 8 [some (.ref (am_oid 4)), some (.ref (am_oid 1)), some (.int (nI c)), some (.int (nI s)), some (.int (nI (cf c + i))), a5, a6, a7] [] σ := by
    intro j
    induction j with
    | zero =>
      intro i a5 a6 a7 hi ht
      have : i = cn c := by omega
      subst this
      exact kb_9_isMet_8 (hc0 := rfl) (hi0 := vc) (kt := fun _ => kb_9_isMet_108 ⟨rfl, by rw [ht]; rfl⟩) (kf := fun z => absurd (by rw [cc, s2]; exact nI_le (by omega) (by omega)) z)
    | succ j ih =>
      intro i a5 a6 a7 hi ht
      obtain ⟨t1, t2, t3⟩ := hat (cf c + i) (by omega)
      have ca : (nI (cf c + i)).toNatClampNeg = cf c + i := nI_clamp (by omega)
      refine kb_9_isMet_8 (hc0 := rfl) (hi0 := vc) (kt := fun z => absurd z (by rw [cc, s2]; exact nI_ge (by omega) (by omega))) (kf := fun _ => ?_)
      have e4 : nI (cf c + i) * 4 = nI (4 * (cf c + i)) := by rw [show (4 : Int32) = nI 4 from rfl, nI_mul, Nat.mul_comm]
      refine kb_9_isMet_19 (hc0 := rfl) (hC := by
        rw [e4]
        exact sp_9_evaluate (o := 1) (kr := 10) (c := 2) (n := 576) rfl (by decide) rfl (by decide) (by omega) hnv h0 t3 hs hx) (k := fun r τ hr => ?_)
      obtain ⟨rfl, rfl⟩ := hr
      obtain ⟨e, he⟩ : ∃ e, e = pl_ev (fm (cf c + i)) x nv := ⟨_, rfl⟩
      have ha : pl_at nv sg fm x (cf c + i) = pl_so (sg (cf c + i)) e := by rw [he]; rfl
      rw [← he]
      obtain ⟨p1, p2, p3⟩ := pl_so_1 (e := e) t2
      -- what a test's outcome leads to
      have go : ∀ (b : Bool) (b7 : Option Value), pl_so (sg (cf c + i)) e = b → am_T false ya_9_isMet (d + 1) (fun r υ => υ = τ ∧ r = some (.int (am_bI (pl_al (pl_at nv sg fm x) (cf c) (cn c))))) 93 [some (.ref (am_oid 4)), some (.ref (am_oid 1)), some (.int (nI c)), some (.int (nI s)), some (.int (nI (cf c + i))), some (.int e), some (.int (sg (cf c + i))), b7] [.int (am_bI b)] τ := by
        intro b b7 hb
        cases b with
        | true =>
          refine kb_9_isMet_93 (kt := fun _ => kb_9_isMet_102 (k := ?_)) (kf := fun z => absurd z (show ¬ am_bI true = 0 by decide))
          rw [nI_1]
          refine ih (i + 1) _ _ _ (by omega) ?_
          show (pl_al (pl_at nv sg fm x) (cf c) i && pl_at nv sg fm x (cf c + i)) = true
          rw [ht, ha, hb]; rfl
        | false =>
          refine kb_9_isMet_93 (kt := fun z => absurd rfl z) (kf := fun _ => kb_9_isMet_100 ⟨rfl, ?_⟩)
          have := pl_al_f (p := pl_at nv sg fm x) (a := cf c) (i := i) (by rw [ha]; exact hb) j
          rw [show i + 1 + j = cn c by omega] at this
          rw [this]; rfl
      refine kb_9_isMet_32 (hc0 := rfl) (hi1 := vp_in_nI (by omega) (by omega)) (kt := fun z => ?_) (kf := fun z => ?_)
      · rw [ca, t1] at z
        rw [ca, t1]
        refine kb_9_isMet_63 (kt := fun w => ?_) (kf := fun w => ?_)
        · have q : sg (cf c + i) = 61 := by
            rcases t2 with t2 | t2 | t2
            · exact absurd t2 z
            · exact t2
            · exact absurd t2 w
          refine kb_9_isMet_83 (kt := fun u => kb_9_isMet_92 (k := go false _ (by rw [p2 q, decide_eq_false u]))) (kf := fun u => kb_9_isMet_88 (k := go true _ (by rw [p2 q, decide_eq_true u])))
        · refine kb_9_isMet_70 (kt := fun u => kb_9_isMet_79 (k := go false _ (by rw [p3 w, decide_eq_false (fun v => by rw [← i32_nlt] at v; exact v u)]))) (kf := fun u => kb_9_isMet_75 (k := go true _ (by rw [p3 w, decide_eq_true (by rw [← i32_nlt]; exact u)])))
      · rw [ca, t1] at z
        rw [ca, t1]
        refine kb_9_isMet_50 (kt := fun u => kb_9_isMet_59 (k := go false _ (by rw [p1 z, decide_eq_false (fun v => by rw [← i32_nlt] at v; exact v u)]))) (kf := fun u => kb_9_isMet_55 (k := go true _ (by rw [p1 z, decide_eq_true (by rw [← i32_nlt]; exact u)])))
  refine am_enter rfl (by simp [Value.category]) (Nat.le_of_ble_eq_true rfl) ?_
  refine kb_9_isMet_0 (hc0 := rfl) (hi0 := vc) (k := ?_)
  rw [cc, s1]
  exact loop (cn c) 0 _ _ _ (by omega) rfl
/-! the reference -/
theorem sp_11_sumAt {p : Nat} {f : Nat → Int32} (hnv : nv ≤ 3) (hp : p + 4 ≤ 1300) (h0 : am_A σ 16 3 0 = nI nv) (hf : ∀ j, j < 4 → am_A σ 16 3 (p + j) = f j) : am_C true ya_11_sumAt d [.ref (am_oid 16), .int (nI p)] σ (fun r τ => τ = σ ∧ r = some (.int (pl_ev f (am_A σ 16 24) nv))) := by
  have loop : ∀ (j v : Nat), v + j = nv → am_T true ya_11_sumAt d (fun r τ => τ = σ ∧ r = some (.int (pl_ev f (am_A σ 16 24) nv))) 9 [some (.ref (am_oid 16)), some (.int (nI p)), some (.int (pl_ev f (am_A σ 16 24) v)), some (.int (nI v))] [] σ := by
    intro j
    induction j with
    | zero =>
      intro v hv
      have : v = nv := by omega
      subst this
      exact kb_11_sumAt_9 (kt := fun _ => kb_11_sumAt_45 ⟨rfl, rfl⟩) (kf := fun z => absurd (by rw [h0]; exact nI_le (by omega) (by omega)) z)
    | succ j ih =>
      intro v hv
      have e1 : nI p + 1 + nI v = nI (p + (1 + v)) := by rw [show (1 : Int32) = nI 1 from rfl, nI_add, nI_add, Nat.add_assoc]
      refine kb_11_sumAt_9 (kt := fun z => absurd z (by rw [h0]; exact nI_ge (by omega) (by omega))) (kf := fun _ => ?_)
      refine kb_11_sumAt_19 (hi0 := by rw [e1]; exact vp_in_nI (by omega) (by omega)) (hi1 := vp_in_nI (by omega) (by omega)) (k := ?_)
      rw [e1, nI_clamp (show p + (1 + v) < 2 ^ 31 by omega), nI_clamp (show v < 2 ^ 31 by omega), hf (1 + v) (by omega), nI_1]
      exact ih (v + 1) (by omega)
  refine am_enter rfl (by simp [Value.category]) (Nat.le_of_ble_eq_true rfl) ?_
  refine kb_11_sumAt_0 (hi0 := vp_in_nI (by omega) (by omega)) (k := ?_)
  have e0 : am_A σ 16 3 (nI p).toNatClampNeg = pl_ev f (am_A σ 16 24) 0 := by rw [nI_clamp (show p < 2 ^ 31 by omega)]; exact hf 0 (by omega)
  rw [e0]
  have := loop nv 0 (by omega)
  rw [nI_0] at this
  exact this
theorem sp_11_holdsAtom {a : Nat} (hP : pl_M (am_A σ 16 3) nv ns nb K T na sg fm cf cn g sf) (hnv : nv ≤ 3) (h0 : am_A σ 16 3 0 = nI nv) (ha : a < na) : am_C true ya_11_holdsAtom (d + 1) [.ref (am_oid 16), .int (nI a)] σ (fun r τ => τ = σ ∧ r = some (.int (am_bI (pl_at nv sg fm (am_A σ 16 24) a)))) := by
  have hna := hP.1
  obtain ⟨t1, t2, t3⟩ := hP.2.2.2.2.2.2 a ha
  have e5 : (182 : Int32) + 5 * nI a = nI (182 + 5 * a) := by rw [show (182 : Int32) = nI 182 from rfl, show (5 : Int32) = nI 5 from rfl, nI_mul, nI_add]
  have e6 : (182 : Int32) + 5 * nI a + 1 = nI (182 + 5 * a + 1) := by rw [e5, nI_1]
  refine am_enter rfl (by simp [Value.category]) (Nat.le_of_ble_eq_true rfl) ?_
  refine kb_11_holdsAtom_0 (hC := by
    rw [e6]
    exact sp_11_sumAt hnv (by omega) h0 t3) (k := fun r τ hr => ?_)
  obtain ⟨rfl, rfl⟩ := hr
  rw [e5]
  obtain ⟨e, he⟩ : ∃ e, e = pl_ev (fm a) (am_A τ 16 24) nv := ⟨_, rfl⟩
  have hat : pl_at nv sg fm (am_A τ 16 24) a = pl_so (sg a) e := by rw [he]; rfl
  rw [← he, hat]
  obtain ⟨p1, p2, p3⟩ := pl_so_1 (e := e) t2
  have ca : (nI (182 + 5 * a)).toNatClampNeg = 182 + 5 * a := nI_clamp (by omega)
  have va : vp_in (nI (182 + 5 * a)) 1300 := vp_in_nI (by omega) (by omega)
  have fin : ∀ (b : Bool) (b0 b1 b2 b3 : Option Value), pl_so (sg a) e = b → am_T true ya_11_holdsAtom (d + 1) (fun r υ => υ = τ ∧ r = some (.int (am_bI (pl_so (sg a) e)))) 71 [b0, b1, b2, b3] [.int (am_bI b)] τ := fun b b0 b1 b2 b3 hb => by
    rw [hb]
    cases b with
    | true => exact kb_11_holdsAtom_71 (hb0 := rfl) (hq := ⟨rfl, rfl⟩)
    | false => exact kb_11_holdsAtom_71 (hb0 := rfl) (hq := ⟨rfl, rfl⟩)
  refine kb_11_holdsAtom_15 (hi1 := va) (kt := fun z => ?_) (kf := fun z => ?_)
  · rw [ca, t1] at z
    refine kb_11_holdsAtom_39 (hi0 := va) (kt := fun w => ?_) (kf := fun w => ?_)
    · rw [ca, t1] at w
      have q : sg a = 62 := by
        rcases t2 with t2 | t2 | t2
        · exact absurd t2 z
        · exact absurd t2 w
        · exact t2
      exact kb_11_holdsAtom_62 (kt := fun u => kb_11_holdsAtom_70 (k := fin false _ _ _ _ (by rw [p3 q, decide_eq_false (fun v => by rw [← i32_nlt] at v; exact v u)]))) (kf := fun u => kb_11_holdsAtom_66 (k := fin true _ _ _ _ (by rw [p3 q, decide_eq_true (by rw [← i32_nlt]; exact u)])))
    · rw [ca, t1] at w
      exact kb_11_holdsAtom_50 (kt := fun u => kb_11_holdsAtom_58 (k := fin false _ _ _ _ (by rw [p2 w, decide_eq_false u]))) (kf := fun u => kb_11_holdsAtom_54 (k := fin true _ _ _ _ (by rw [p2 w, decide_eq_true u])))
  · rw [ca, t1] at z
    exact kb_11_holdsAtom_27 (kt := fun u => kb_11_holdsAtom_35 (k := fin false _ _ _ _ (by rw [p1 z, decide_eq_false (fun v => by rw [← i32_nlt] at v; exact v u)]))) (kf := fun u => kb_11_holdsAtom_31 (k := fin true _ _ _ _ (by rw [p1 z, decide_eq_true (by rw [← i32_nlt]; exact u)])))
theorem sp_11_holdsAll {c : Nat} (hP : pl_M (am_A σ 16 3) nv ns nb K T na sg fm cf cn g sf) (hnv : nv ≤ 3) (h0 : am_A σ 16 3 0 = nI nv) (hc : c < 32) : am_C true ya_11_holdsAll (d + 2) [.ref (am_oid 16), .int (nI (cf c)), .int (nI (cn c))] σ (fun r τ => τ = σ ∧ r = some (.int (am_bI (pl_cd nv sg fm cf cn (am_A σ 16 24) c)))) := by
  have hna := hP.1
  have hcn := hP.2.1 c hc
  unfold pl_cd
  have loop : ∀ (j i : Nat), i + j = cn c → pl_al (pl_at nv sg fm (am_A σ 16 24)) (cf c) i = true → am_T true ya_11_holdsAll (d + 2) (fun r τ => τ = σ ∧ r = some (.int (am_bI (pl_al (pl_at nv sg fm (am_A σ 16 24)) (cf c) (cn c))))) 2 [some (.ref (am_oid 16)), some (.int (nI (cf c))), some (.int (nI (cn c))), some (.int (nI i))] [] σ := by
    intro j
    induction j with
    | zero =>
      intro i hi ht
      have : i = cn c := by omega
      subst this
      exact kb_11_holdsAll_2 (kt := fun _ => kb_11_holdsAll_25 ⟨rfl, by rw [ht]; rfl⟩) (kf := fun z => absurd (nI_le (by omega) (by omega)) z)
    | succ j ih =>
      intro i hi ht
      refine kb_11_holdsAll_2 (kt := fun z => absurd z (nI_ge (by omega) (by omega))) (kf := fun _ => ?_)
      refine kb_11_holdsAll_7 (hC := by
        rw [nI_add]
        exact sp_11_holdsAtom hP hnv h0 (show cf c + i < na by omega)) (k := fun r τ hr => ?_)
      obtain ⟨rfl, rfl⟩ := hr
      cases hb : pl_at nv sg fm (am_A τ 16 24) (cf c + i) with
      | true =>
        refine kb_11_holdsAll_14 (kt := fun _ => kb_11_holdsAll_19 (k := ?_)) (kf := fun z => absurd z (show ¬ am_bI true = 0 by decide))
        rw [nI_1]
        refine ih (i + 1) (by omega) ?_
        show (pl_al (pl_at nv sg fm (am_A τ 16 24)) (cf c) i && pl_at nv sg fm (am_A τ 16 24) (cf c + i)) = true
        rw [ht, hb]; rfl
      | false =>
        refine kb_11_holdsAll_14 (kt := fun z => absurd rfl z) (kf := fun _ => kb_11_holdsAll_17 ⟨rfl, ?_⟩)
        have := pl_al_f hb j
        rw [show i + 1 + j = cn c by omega] at this
        rw [this]; rfl
  refine am_enter rfl (by simp [Value.category]) (Nat.le_of_ble_eq_true rfl) (kb_11_holdsAll_0 (k := ?_))
  have := loop (cn c) 0 (by omega) rfl
  rw [nI_0] at this
  exact this
theorem sp_11_holdsOne {b m c0 : Nat} (hP : pl_M (am_A σ 16 3) nv ns nb K T na sg fm cf cn g sf) (hnv : nv ≤ 3) (h0 : am_A σ 16 3 0 = nI nv) (hm : m ≤ 4) (hb : b ≤ 22) (hc0 : c0 ≤ 4) (hS : ∀ c, c < m → am_A σ 16 3 (b + 2 * c) = nI (cf (c0 + c)) ∧ am_A σ 16 3 (b + 2 * c + 1) = nI (cn (c0 + c))) : am_C true ya_11_holdsOne (d + 3) [.ref (am_oid 16), .int (nI b), .int (nI m)] σ (fun r τ => τ = σ ∧ r = some (.int (am_bI (pl_ex (fun c => pl_cd nv sg fm cf cn (am_A σ 16 24) (c0 + c)) m)))) := by
  have loop : ∀ (j i : Nat), i + j = m → pl_ex (fun c => pl_cd nv sg fm cf cn (am_A σ 16 24) (c0 + c)) i = false → am_T true ya_11_holdsOne (d + 3) (fun r τ => τ = σ ∧ r = some (.int (am_bI (pl_ex (fun c => pl_cd nv sg fm cf cn (am_A σ 16 24) (c0 + c)) m)))) 2 [some (.ref (am_oid 16)), some (.int (nI b)), some (.int (nI m)), some (.int (nI i))] [] σ := by
    intro j
    induction j with
    | zero =>
      intro i hi ht
      have : i = m := by omega
      subst this
      exact kb_11_holdsOne_2 (kt := fun _ => kb_11_holdsOne_44 ⟨rfl, by rw [ht]; rfl⟩) (kf := fun z => absurd (nI_le (by omega) (by omega)) z)
    | succ j ih =>
      intro i hi ht
      obtain ⟨s1, s2⟩ := hS i (by omega)
      have e1 : nI b + 2 * nI i = nI (b + 2 * i) := by rw [show (2 : Int32) = nI 2 from rfl, nI_mul, nI_add]
      have e2 : nI b + 2 * nI i + 1 = nI (b + 2 * i + 1) := by rw [e1, nI_1]
      refine kb_11_holdsOne_2 (kt := fun z => absurd z (nI_ge (by omega) (by omega))) (kf := fun _ => ?_)
      refine kb_11_holdsOne_7 (hi0 := by rw [e1]; exact vp_in_nI (by omega) (by omega)) (hi1 := by rw [e2]; exact vp_in_nI (by omega) (by omega)) (hC := by
        rw [e1, nI_1, nI_clamp (show b + 2 * i < 2 ^ 31 by omega), nI_clamp (show b + 2 * i + 1 < 2 ^ 31 by omega), s1, s2]
        exact sp_11_holdsAll hP hnv h0 (show c0 + i < 32 by omega)) (k := fun r τ hr => ?_)
      obtain ⟨rfl, rfl⟩ := hr
      cases hbb : pl_cd nv sg fm cf cn (am_A τ 16 24) (c0 + i) with
      | true =>
        refine kb_11_holdsOne_33 (kt := fun z => absurd z (show ¬ am_bI true = 0 by decide)) (kf := fun _ => kb_11_holdsOne_36 ⟨rfl, ?_⟩)
        have := pl_ex_t (p := fun c => pl_cd nv sg fm cf cn (am_A τ 16 24) (c0 + c)) (i := i) hbb j
        rw [show i + 1 + j = m by omega] at this
        rw [this]; rfl
      | false =>
        refine kb_11_holdsOne_33 (kt := fun _ => kb_11_holdsOne_38 (k := ?_)) (kf := fun z => absurd rfl z)
        rw [nI_1]
        refine ih (i + 1) (by omega) ?_
        show (pl_ex (fun c => pl_cd nv sg fm cf cn (am_A τ 16 24) (c0 + c)) i || pl_cd nv sg fm cf cn (am_A τ 16 24) (c0 + i)) = false
        rw [ht, hbb]; rfl
  refine am_enter rfl (by simp [Value.category]) (Nat.le_of_ble_eq_true rfl) (kb_11_holdsOne_0 (k := ?_))
  have := loop m 0 (by omega) rfl
  rw [nI_0] at this
  exact this
end PLAN
