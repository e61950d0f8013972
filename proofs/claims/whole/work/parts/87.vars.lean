/-! variables: numbers below 0, states by their values -/
def iI (x : Int) : Int32 := Int32.ofInt x
theorem iI_n (n : Nat) : iI (n : Int) = nI n := Int32.ofInt_eq_ofNat
theorem iI_add (a b : Int) : iI a + iI b = iI (a + b) := (Int32.ofInt_add a b).symm
theorem iI_sub (a b : Int) : iI a - iI b = iI (a - b) := (Int32.ofInt_sub a b).symm
theorem iI_mul (a b : Int) : iI a * iI b = iI (a * b) := (Int32.ofInt_mul a b).symm
theorem iI_neg (a : Int) : -(iI a) = iI (-a) := (Int32.ofInt_neg a).symm
theorem iI_to {x : Int} (h1 : -2147483648 ≤ x) (h2 : x < 2147483648) : (iI x).toInt = x := Int32.toInt_ofInt_of_le (by omega) (by omega)
theorem iI_of (x : Int32) : iI x.toInt = x := Int32.ofInt_toInt x
theorem iI_lt {a b : Int} (h1 : -2147483648 ≤ a) (h2 : a < 2147483648) (h3 : -2147483648 ≤ b) (h4 : b < 2147483648) : (iI a < iI b) = (a < b) := by rw [Int32.lt_iff_toInt_lt, iI_to h1 h2, iI_to h3 h4]
theorem iI_le {a b : Int} (h1 : -2147483648 ≤ a) (h2 : a < 2147483648) (h3 : -2147483648 ≤ b) (h4 : b < 2147483648) : (iI a ≤ iI b) = (a ≤ b) := by rw [Int32.le_iff_toInt_le, iI_to h1 h2, iI_to h3 h4]
theorem iI_eq {a b : Int} (h1 : -2147483648 ≤ a) (h2 : a < 2147483648) (h3 : -2147483648 ≤ b) (h4 : b < 2147483648) : (iI a = iI b) = (a = b) := propext ⟨fun h => by have := congrArg Int32.toInt h; rw [iI_to h1 h2, iI_to h3 h4] at this; exact this, fun h => by rw [h]⟩
theorem iI_x_lt {x : Int32} {b : Int} (h3 : -2147483648 ≤ b) (h4 : b < 2147483648) : (x < iI b) = (x.toInt < b) := by rw [Int32.lt_iff_toInt_lt, iI_to h3 h4]
theorem iI_x_le {x : Int32} {b : Int} (h3 : -2147483648 ≤ b) (h4 : b < 2147483648) : (x ≤ iI b) = (x.toInt ≤ b) := by rw [Int32.le_iff_toInt_le, iI_to h3 h4]
theorem i32_rng (x : Int32) : -2147483648 ≤ x.toInt ∧ x.toInt < 2147483648 := ⟨Int32.le_toInt x, Int32.toInt_lt x⟩
/-! widths and places -/
def wl_p (wd : Nat → Nat) : Nat → Nat
  | 0 => 1
  | v + 1 => wl_p wd v * wd v
def wl_s (lo : Nat → Int) (wd : Nat → Nat) (f : Nat → Int) : Nat → Option Nat
  | 0 => some 0
  | v + 1 => match wl_s lo wd f v with
    | none => none
    | some a => if lo v ≤ f v ∧ f v < lo v + wd v then some (a * wd v + (f v - lo v).toNat) else none
def wl_lf (nv : Nat) (wd : Nat → Nat) (s : Nat) : Nat → Nat
  | 0 => s
  | j + 1 => wl_lf nv wd s j / wd (nv - 1 - j)
def wl_v (nv : Nat) (lo : Nat → Int) (wd : Nat → Nat) (s v : Nat) : Int := lo v + ((wl_lf nv wd s (nv - 1 - v) % wd v : Nat) : Int)
def wl_ok (nv : Nat) (lo : Nat → Int) (wd : Nat → Nat) (N : Nat) : Prop := nv ≤ 3 ∧ (∀ v, v < nv → -20 ≤ lo v ∧ 1 ≤ wd v ∧ lo v + wd v ≤ 21) ∧ N = wl_p wd nv ∧ N ≤ 600
theorem wl_s_lt {lo : Nat → Int} {wd : Nat → Nat} {f : Nat → Int} : ∀ (v : Nat) {a : Nat}, wl_s lo wd f v = some a → a < wl_p wd v := by
  intro v
  induction v with
  | zero => intro a h; injection h with h; subst h; exact Nat.one_pos
  | succ v ih =>
    intro a h
    unfold wl_s at h
    cases h1 : wl_s lo wd f v with
    | none => rw [h1] at h; cases h
    | some b =>
      rw [h1] at h
      dsimp only at h
      split at h
      · rename_i hc
        injection h with h
        have h2 := ih h1
        show a < wl_p wd v * wd v
        have h3 : (f v - lo v).toNat < wd v := by omega
        have h4 : (b + 1) * wd v ≤ wl_p wd v * wd v := Nat.mul_le_mul_right _ h2
        rw [Nat.add_mul, Nat.one_mul] at h4
        omega
      · cases h
theorem wl_s_none {lo : Nat → Int} {wd : Nat → Nat} {f : Nat → Int} {v : Nat} (h : wl_s lo wd f v = none) : ∀ j, wl_s lo wd f (v + j) = none := by
  intro j
  induction j with
  | zero => exact h
  | succ j ih => show (match wl_s lo wd f (v + j) with | none => none | some a => _) = none; rw [ih]
theorem wl_p_mono {wd : Nat → Nat} {nv : Nat} (h : ∀ v, v < nv → 1 ≤ wd v) : ∀ j v, v + j = nv → wl_p wd v ≤ wl_p wd nv := by
  intro j
  induction j with
  | zero => intro v hv; rw [show v = nv by omega]; exact Nat.le_refl _
  | succ j ih =>
    intro v hv
    refine Nat.le_trans ?_ (ih (v + 1) (by omega))
    show wl_p wd v ≤ wl_p wd v * wd v
    exact Nat.le_mul_of_pos_right _ (h v (by omega))
def cl_v (σ : am_St) (nv ns nb : Nat) (lo : Nat → Int) (wd : Nat → Nat) (N : Nat) : Prop := wl_ok nv lo wd N ∧ am_I σ 4 0 = nI nv ∧ am_I σ 4 1 = nI ns ∧ am_I σ 4 2 = nI nb ∧ (∀ v, v < nv → am_A σ 4 6 v = iI (lo v) ∧ am_A σ 4 7 v = iI (lo v + wd v - 1)) ∧ ∀ s, s < N → ∀ v, v < nv → am_A σ 4 8 (3 * s + v) = iI (wl_v nv lo wd s v)
def mo_V (σ : am_St) (nv ns nb : Nat) (lo : Nat → Int) (wd : Nat → Nat) (N : Nat) : Prop := wl_ok nv lo wd N ∧ am_A σ 16 3 0 = nI nv ∧ am_A σ 16 3 1 = nI ns ∧ am_A σ 16 3 2 = nI nb ∧ ∀ v, v < nv → am_A σ 16 3 (8 + 2 * v) = iI (lo v) ∧ am_A σ 16 3 (8 + 2 * v + 1) = iI (lo v + wd v - 1)
section VARS
variable {d nv : Nat} {lo : Nat → Int} {wd : Nat → Nat} {N : Nat} {σ : am_St}
/-- wantedState: by the variables' bounds and the wanted row -/
theorem sp_9_wantedState (hk : wl_ok nv lo wd N) (h0 : am_I σ 4 0 = nI nv) (hb : ∀ v, v < nv → am_A σ 4 6 v = iI (lo v) ∧ am_A σ 4 7 v = iI (lo v + wd v - 1)) : am_C false ya_9_wantedState d [.ref (am_oid 4)] σ (fun r τ => τ = σ ∧ r = some (.int (am_oI (-1) (wl_s lo wd (fun v => (am_A σ 4 12 v).toInt) nv)))) := by
  obtain ⟨k1, k2, k3, k4⟩ := hk
  obtain ⟨f, hf⟩ : ∃ f : Nat → Int, f = fun v => (am_A σ 4 12 v).toInt := ⟨_, rfl⟩
  rw [← hf]
  have loop : ∀ (j v a : Nat), v + j = nv → wl_s lo wd f v = some a → am_T false ya_9_wantedState d (fun r τ => τ = σ ∧ r = some (.int (am_oI (-1) (wl_s lo wd f nv)))) 4 [some (.ref (am_oid 4)), some (.int (nI a)), some (.int (nI v))] [] σ := by
    intro j
    induction j with
    | zero =>
      intro v a hv ha
      have : v = nv := by omega
      subst this
      exact kb_9_wantedState_4 (kt := fun _ => kb_9_wantedState_82 ⟨rfl, by rw [ha]; rfl⟩) (kf := fun z => absurd (by rw [h0]; exact nI_le (by omega) (by omega)) z)
    | succ j ih =>
      intro v a hv ha
      obtain ⟨b1, b2⟩ := hb v (by omega)
      obtain ⟨l1, l2, l3⟩ := k2 v (by omega)
      have vv : vp_in (nI v) 3 := vp_in_nI (by omega) (by omega)
      have cv : (nI v).toNatClampNeg = v := nI_clamp (by omega)
      have efv : (am_A σ 4 12 v).toInt = f v := by rw [hf]
      have es : wl_s lo wd f (v + 1) = if lo v ≤ f v ∧ f v < lo v + wd v then some (a * wd v + (f v - lo v).toNat) else none := by
        show (match wl_s lo wd f v with | none => none | some a => _) = _
        rw [ha]
      have out : ¬ (lo v ≤ f v ∧ f v < lo v + wd v) → am_T false ya_9_wantedState d (fun r τ => τ = σ ∧ r = some (.int (am_oI (-1) (wl_s lo wd f nv)))) 42 [some (.ref (am_oid 4)), some (.int (nI a)), some (.int (nI v))] [] σ := fun h => by
        rw [if_neg h] at es
        have := wl_s_none es j
        rw [show v + 1 + j = nv by omega] at this
        exact kb_9_wantedState_42 ⟨rfl, by rw [this]; rfl⟩
      refine kb_9_wantedState_4 (kt := fun z => absurd z (by rw [h0]; exact nI_ge (by omega) (by omega))) (kf := fun _ => ?_)
      refine kb_9_wantedState_12 (hi0 := vv) (hi1 := vv) (kt := fun z => out ?_) (kf := fun z => ?_)
      · rw [cv, b1, iI_x_lt (by omega) (by omega), efv] at z; omega
      rw [cv, b1, iI_x_lt (by omega) (by omega), efv] at z
      refine kb_9_wantedState_27 (hi0 := vv) (hi1 := vv) (kt := fun y => ?_) (kf := fun y => out ?_)
      rotate_left
      · rw [cv, b2, iI_x_le (by omega) (by omega), efv] at y; omega
      rw [cv, b2, iI_x_le (by omega) (by omega), efv] at y
      rw [if_pos (by omega)] at es
      refine kb_9_wantedState_44 (hi0 := vv) (hi1 := vv) (hi2 := vv) (hi3 := vv) (k := ?_)
      rw [cv, b1, b2, nI_1]
      have ev : nI a * (iI (lo v + wd v - 1) - iI (lo v) + 1) + am_A σ 4 12 v - iI (lo v) = nI (a * wd v + (f v - lo v).toNat) := by
        rw [← iI_of (am_A σ 4 12 v), efv, ← iI_n, ← iI_n, show (1 : Int32) = iI 1 from rfl, iI_sub, iI_add, iI_mul, iI_add, iI_sub]
        congr 1
        have e1 : lo v + (wd v : Int) - 1 - lo v + 1 = (wd v : Int) := by omega
        rw [e1, Int.natCast_add, Int.natCast_mul]
        omega
      rw [ev]
      exact ih (v + 1) _ (by omega) es
  refine am_enter rfl (by simp [Value.category]) (Nat.le_of_ble_eq_true rfl) (kb_9_wantedState_0 (k := ?_))
  have := loop nv 0 0 (by omega) rfl
  rw [nI_0] at this
  exact this
def wl_3 (x1 x2 x3 : Int32) : Nat → Int := fun v => (if v = 0 then x1 else if v = 1 then x2 else x3).toInt
theorem wl_s_cg {f g : Nat → Int} : ∀ (n : Nat), (∀ v, v < n → f v = g v) → wl_s lo wd f n = wl_s lo wd g n := by
  intro n
  induction n with
  | zero => intro _; rfl
  | succ n ih =>
    intro h
    show (match wl_s lo wd f n with | none => none | some a => _) = (match wl_s lo wd g n with | none => none | some a => _)
    rw [ih (fun v hv => h v (by omega)), h n (by omega)]
theorem sp_9_stateWith {ns nb : Nat} (h : cl_v σ nv ns nb lo wd N) (x1 x2 x3 : Int32) : am_C false ya_9_stateWith (d + 1) [.ref (am_oid 4), .int x1, .int x2, .int x3] σ (fun r τ => r = some (.int (am_oI (-1) (wl_s lo wd (wl_3 x1 x2 x3) nv))) ∧ ∃ F : Nat → Int32, τ = am_sA σ 4 12 F) := by
  obtain ⟨hk, h0, h1, h2, hb, hv⟩ := id h
  refine am_enter rfl (by simp [Value.category]) (Nat.le_of_ble_eq_true rfl) ?_
  refine kb_9_stateWith_0 (hC := by
    rw [am_sA_sA, am_sA_sA]
    exact sp_9_wantedState (σ := am_sA σ 4 12 (upd (upd (upd (am_A σ 4 12) 0 x1) 1 x2) 2 x3)) hk h0 (fun v hv => by rw [am_A_sA, if_neg (by simp), am_A_sA, if_neg (by simp)]; exact hb v hv)) (k := fun r τ hr => ?_)
  obtain ⟨hτ, rfl⟩ := hr
  refine kb_9_stateWith_25 ⟨?_, _, hτ⟩
  have hnv := hk.1
  rw [wl_s_cg nv (fun v hv => ?_)]
  rw [am_A_sA, if_pos ⟨rfl, rfl⟩]
  have : v = 0 ∨ v = 1 ∨ v = 2 := by omega
  unfold wl_3
  rcases this with rfl | rfl | rfl
  · rw [upd_n (by decide), upd_n (by decide), upd_s]; rfl
  · rw [upd_n (by decide), upd_s]; rfl
  · rw [upd_s]; rfl
end VARS
