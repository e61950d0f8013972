/-! runs drawn: the values; the class -/
theorem ln_and (a : Nat) : lN a &&& 2147483647 = lN (a % 2147483648) := by
  apply Int64.toBitVec_inj.1
  show BitVec.ofNat 64 a &&& BitVec.ofNat 64 2147483647 = BitVec.ofNat 64 (a % 2147483648)
  apply BitVec.eq_of_toNat_eq
  rw [BitVec.toNat_and, BitVec.toNat_ofNat, BitVec.toNat_ofNat, BitVec.toNat_ofNat]
  have e1 : 2147483647 % 2 ^ 64 = 2 ^ 31 - 1 := by decide
  rw [e1, Nat.and_two_pow_sub_one_eq_mod]
  omega
theorem ln_shr {n : Nat} (h : n < 2 ^ 63) : lN n >>> ((16 : Int32).toInt64 &&& 63) = lN (n / 65536) := by
  apply Int64.toInt_inj.mp
  have h2 : n / 65536 ≤ n := Nat.div_le_self _ _
  have hs : (((16 : Int32).toInt64 &&& 63).toBitVec.smod 64).toNat = 16 := by decide
  have e : (lN n >>> ((16 : Int32).toInt64 &&& 63)).toInt = (lN n).toInt >>> 16 := by
    show ((lN n).toBitVec.sshiftRight (((16 : Int32).toInt64 &&& 63).toBitVec.smod 64).toNat).toInt = _
    rw [hs, BitVec.toInt_sshiftRight]
    rfl
  rw [e, pk_lT h, pk_lT (by omega), Int.shiftRight_eq_div_pow]
  rfl
def dr_sd (s : Nat) : Nat := (s * 1103515245 + 12345) % 2147483648
def dr_v (s c : Nat) : Nat := (dr_sd s / 65536) % c
theorem dr_sd_lt (s : Nat) : dr_sd s < 2 ^ 31 := Nat.mod_lt _ (by decide)
theorem dr_lin {s : Nat} : lN s * 1103515245 + 12345 = lN (s * 1103515245 + 12345) := by
  rw [show (1103515245 : Int64) = lN 1103515245 from rfl, show (12345 : Int64) = lN 12345 from rfl, lN_mul, lN_add]
/-- the i-th number from k on that is so -/
def am_nth (p : Nat → Bool) : Nat → Nat → Nat → Option Nat
  | 0, _, _ => none
  | j + 1, k, i => if p k = true then (if i = 0 then some k else am_nth p j (k + 1) (i - 1)) else am_nth p j (k + 1) i
theorem am_rc_head (f : Nat → Bool) (u n : Nat) : am_rc f u (n + 1) = (if f u = true then 1 else 0) + am_rc f (u + 1) n := by
  induction n with
  | zero => unfold am_rc am_cn; show 0 + (if f (u + 0) = true then 1 else 0) = _; rw [Nat.add_zero, Nat.zero_add]; rfl
  | succ n ih =>
    show am_rc f u (n + 1) + (if f (u + (n + 1)) = true then 1 else 0) = _ + (am_rc f (u + 1) n + (if f (u + 1 + n) = true then 1 else 0))
    rw [ih, show u + (n + 1) = u + 1 + n by omega]
    omega
theorem am_nth_some {p : Nat → Bool} : ∀ (j k i : Nat), i < am_rc p k j → ∃ x, am_nth p j k i = some x ∧ k ≤ x ∧ x < k + j ∧ p x = true := by
  intro j
  induction j with
  | zero => intro k i h; exact absurd h (Nat.not_lt_zero i)
  | succ j ih =>
    intro k i h
    rw [am_rc_head] at h
    unfold am_nth
    by_cases c : p k = true
    · rw [if_pos c] at h ⊢
      by_cases e : i = 0
      · rw [if_pos e]; exact ⟨k, rfl, Nat.le_refl _, by omega, c⟩
      · rw [if_neg e]
        obtain ⟨x, h1, h2, h3, h4⟩ := ih (k + 1) (i - 1) (by omega)
        exact ⟨x, h1, by omega, by omega, h4⟩
    · rw [if_neg c] at h ⊢
      obtain ⟨x, h1, h2, h3, h4⟩ := ih (k + 1) i (by omega)
      exact ⟨x, h1, by omega, by omega, h4⟩
theorem am_rc_0 (p : Nat → Bool) (n : Nat) : am_rc p 0 n = am_cn p n := by
  unfold am_rc
  exact am_cn_congr (fun i _ => by rw [Nat.zero_add])
/-- where the i-th of the steps that can be taken leads -/
def nx_at (nx : Nat → Nat → Option Nat) (K s i : Nat) : Nat := match am_nth (fun k => (nx s k).isSome) K 0 i with
  | none => 0
  | some k => match nx s k with
    | none => 0
    | some t => t
def tg_gd (x : sm_T) (s : Nat) : Bool := match sm_find x.2.2.1 x.1 s with
  | none => false
  | some i => am_bt 1 (nI (x.2.2.2.1 i))
def rn_go (nx : Nat → Nat → Option Nat) (K : Nat) (g : Nat → Bool) : Nat → Nat → Nat → Option Nat
  | 0, s, _ => if g s = true then none else some s
  | j + 1, s, sd => if g s = true then (if nx_cn nx K s = 0 then none else rn_go nx K g j (nx_at nx K s (dr_v sd (nx_cn nx K s))) (dr_sd sd)) else some s
def rn_fin (N K : Nat) (fl : Nat → Nat → Bool) (nx : Nat → Nat → Option Nat) (x : sm_T) (sd n : Nat) : sm_T × Int32 :=
  if am_cn (fun s => fl s 0) N = 0 then (x, -1)
  else match rn_go nx K (tg_gd x) n ((am_nth (fun s => fl s 0) N 0 (dr_v sd (am_cn (fun s => fl s 0) N))).getD 0) (dr_sd sd) with
    | none => (x, -2)
    | some s => match te_tell x s 1 with
      | none => (x, -1)
      | some p => (p.1, nI p.2)
section RUN
variable {d N K T : Nat} {tb : Nat → Int32} {fl : Nat → Nat → Bool} {nx : Nat → Nat → Option Nat} {σ : am_St} {L : Nat} {y : lr_T} {care order : Bool} {tm : Int32}
theorem nx_at_lt {s : Nat} (h : ∀ k, k < K → ∀ t, nx s k = some t → t < N) {i : Nat} (hi : i < nx_cn nx K s) : ∃ k, k < K ∧ am_nth (fun k => (nx s k).isSome) K 0 i = some k ∧ nx s k = some (nx_at nx K s i) ∧ nx_at nx K s i < N := by
  unfold nx_cn at hi
  rw [← am_rc_0] at hi
  obtain ⟨k, h1, h2, h3, h4⟩ := am_nth_some K 0 i hi
  cases hx : nx s k with
  | none => rw [hx] at h4; cases h4
  | some t =>
    have e : nx_at nx K s i = t := by unfold nx_at; rw [h1]; dsimp only; rw [hx]
    refine ⟨k, by omega, h1, ?_, ?_⟩
    · rw [e]; exact hx
    · rw [e]; exact h k (by omega) t hx
theorem sp_1_draw {sd c : Nat} (hL : L = 6 ∨ L = 7) (hs : sd < 2 ^ 31) (hJ : am_J σ L = lN sd) (hc : 0 < c) (hc2 : c < 2 ^ 31) : am_C false ya_1_draw d [.ref (am_oid L), .int (nI c)] σ (fun r τ => r = some (.int (nI (dr_v sd c))) ∧ τ = am_sJ σ L (lN (dr_sd sd))) := by
  obtain ⟨c1, -⟩ := le_lk hL
  have hl := nI_l hc2
  have e1 : am_J σ L * 1103515245 + 12345 &&& 2147483647 = lN (dr_sd sd) := by rw [hJ, dr_lin, ln_and]; rfl
  refine am_enter rfl (by simp [Value.category]) (Nat.le_of_ble_eq_true rfl) ?_
  refine kb_1_draw_0 (kt := fun _ => ?_) (kf := fun z => absurd ?_ z)
  · refine kb_1_draw_6 (hz0 := ?_) (hq := ⟨?_, ?_⟩)
    · rw [hl, show (0 : Int64) = lN 0 from rfl, lN_eq hc2 (by decide)]; omega
    · have hd := dr_sd_lt sd
      rw [e1, am_J_sJ, if_pos rfl, ln_shr (by omega), hl, pk_lRem (by omega) hc (by omega), lN_i]
      rfl
    · rw [e1]
  · rw [← nI_0]; exact nI_lt hc hc2
theorem sp_1_startNumber (hL : L = 6 ∨ L = 7) (hW : am_Wo σ N K T tb fl nx) {i x : Nat} (hi : i < 2 ^ 31) (hx : am_nth (fun s => fl s 0) N 0 i = some x) : am_C false ya_1_startNumber d [.ref (am_oid L), .int (nI i)] σ (fun r τ => τ = σ ∧ r = some (.int (nI x))) := by
  obtain ⟨c1, e0, e1, e2, c9, c0, c5⟩ := le_lk hL
  obtain ⟨w1, w2, w3, w4, w5, w6, w7, w8⟩ := id hW
  have loop : ∀ (j s i : Nat), s + j = N → i < 2 ^ 31 → am_nth (fun s => fl s 0) j s i = some x → ∀ a1 : Int32, am_T false ya_1_startNumber d (fun r τ => τ = σ ∧ r = some (.int (nI x))) 4 [some (.ref (am_oid L)), some (.int a1), some (.int (nI i)), some (.int (nI s))] [] σ := by
    intro j
    induction j with
    | zero => intro s i hs hi hx; cases hx
    | succ j ih =>
      intro s i hs hi hx a1
      have eF : am_A σ (am_lk L 0) 9 (nI s).toNatClampNeg = am_f4 (fl s 0) (fl s 1) (fl s 2) (fl s 3) := by rw [e0, nI_clamp (by omega)]; exact (w7 s (by omega)).2
      have hx' : (if fl s 0 = true then (if i = 0 then some s else am_nth (fun s => fl s 0) j (s + 1) (i - 1)) else am_nth (fun s => fl s 0) j (s + 1) i) = some x := hx
      refine kb_1_startNumber_4 (kt := fun z => absurd z (by rw [e0, w4]; exact nI_ge (by omega) (by omega))) (kf := fun _ => ?_)
      refine kb_1_startNumber_15 (hi0 := vp_in_nI (by omega) (by omega)) (kt := fun z => ?_) (kf := fun z => ?_)
      · rw [eF, (am_f4_and _ _ _ _).1] at z
        rw [if_neg (by rw [z]; decide)] at hx'
        refine kb_1_startNumber_38 (k := ?_)
        rw [nI_1]
        exact ih (s + 1) i (by omega) hi hx' _
      · rw [eF, (am_f4_and _ _ _ _).1] at z
        rw [if_pos (by simpa using z)] at hx'
        refine kb_1_startNumber_29 (kt := fun y => ?_) (kf := fun y => ?_)
        · rw [nI_eq0 hi] at y
          rw [if_neg y] at hx'
          refine kb_1_startNumber_35 (k := kb_1_startNumber_38 (k := ?_))
          have e : nI i + -1 = nI (i - 1) := by rw [← nI_dec (i - 1), show i - 1 + 1 = i by omega]
          rw [nI_1, e]
          exact ih (s + 1) (i - 1) (by omega) (by omega) hx' _
        · rw [nI_eq0 hi] at y
          rw [if_pos y] at hx'
          injection hx' with hx'
          subst hx'
          exact kb_1_startNumber_33 ⟨rfl, rfl⟩
  refine am_enter rfl (by simp [Value.category]) (Nat.le_of_ble_eq_true rfl) (kb_1_startNumber_0 (k := ?_))
  have := loop N 0 i (by omega) hi hx (nI i)
  rw [nI_0] at this
  exact this
theorem sp_1_targetNumber (hL : L = 6 ∨ L = 7) (hW : am_Wo σ N K T tb fl nx) {s i : Nat} (hs : s < N) (hi : i < nx_cn nx K s) : am_C false ya_1_targetNumber d [.ref (am_oid L), .int (nI s), .int (nI i)] σ (fun r τ => τ = σ ∧ r = some (.int (nI (nx_at nx K s i)))) := by
  obtain ⟨c1, e0, e1, e2, c9, c0, c5⟩ := le_lk hL
  obtain ⟨w1, w2, w3, w4, w5, w6, w7, w8⟩ := id hW
  obtain ⟨k0, hk0, hn, hxk, hlt⟩ := nx_at_lt (fun k hk => (w8 s hs k hk).2) hi
  have hcn := am_cn_le (fun k => (nx s k).isSome) K
  have hi2 : i < 2 ^ 31 := by unfold nx_cn at hi; omega
  obtain ⟨t0, ht0⟩ : ∃ t0, t0 = nx_at nx K s i := ⟨_, rfl⟩
  rw [← ht0] at hxk hlt ⊢
  have loop : ∀ (j k i : Nat), k + j = K → i < 2 ^ 31 → am_nth (fun k => (nx s k).isSome) j k i = some k0 → ∀ (a2 : Int32) (a5 : Option Value), am_T false ya_1_targetNumber d (fun r τ => τ = σ ∧ r = some (.int (nI t0))) 5 [some (.ref (am_oid L)), some (.int (nI s)), some (.int a2), some (.int (nI i)), some (.int (nI k)), a5] [] σ := by
    intro j
    induction j with
    | zero => intro k i hk hi hx; cases hx
    | succ j ih =>
      intro k i hk hi hx a2 a5
      obtain ⟨g1, g2⟩ := w8 s hs k (by omega)
      have eT : am_A σ (am_lk L 0) 11 (nI s * 8 + nI k).toNatClampNeg = am_oI (-2) (nx s k) := by rw [e0, am_ix8, nI_clamp (by omega)]; exact g1
      have hx' : (if (nx s k).isSome = true then (if i = 0 then some k else am_nth (fun k => (nx s k).isSome) j (k + 1) (i - 1)) else am_nth (fun k => (nx s k).isSome) j (k + 1) i) = some k0 := hx
      refine kb_1_targetNumber_5 (kt := fun z => absurd z (by rw [e0, w5]; exact nI_ge (by omega) (by omega))) (kf := fun _ => ?_)
      refine kb_1_targetNumber_17 (hi0 := by rw [am_ix8]; exact vp_in_nI (by omega) (by omega)) (kt := fun z => ?_) (kf := fun z => ?_)
      · rw [eT, am_oI_neg g2 w1 _ am_neg2] at z
        rw [z] at hx'
        refine kb_1_targetNumber_49 (k := ?_)
        rw [nI_1]
        exact ih (k + 1) i (by omega) hi hx' _ _
      · rw [eT, am_oI_neg g2 w1 _ am_neg2] at z
        rw [eT]
        cases hc : nx s k with
        | none => exact absurd hc z
        | some t =>
          rw [hc, if_pos (show (some t).isSome = true from rfl)] at hx'
          show am_T _ _ _ _ _ [_, _, _, _, _, some (.int (nI t))] _ _
          refine kb_1_targetNumber_39 (kt := fun y => ?_) (kf := fun y => ?_)
          · rw [nI_eq0 hi] at y
            rw [if_neg y] at hx'
            refine kb_1_targetNumber_46 (k := kb_1_targetNumber_49 (k := ?_))
            have e : nI i + -1 = nI (i - 1) := by rw [← nI_dec (i - 1), show i - 1 + 1 = i by omega]
            rw [nI_1, e]
            exact ih (k + 1) (i - 1) (by omega) (by omega) hx' _ _
          · rw [nI_eq0 hi] at y
            rw [if_pos y] at hx'
            injection hx' with hx'
            subst hx'
            rw [hxk] at hc
            injection hc with hc
            subst hc
            exact kb_1_targetNumber_43 ⟨rfl, rfl⟩
  refine am_enter rfl (by simp [Value.category]) (Nat.le_of_ble_eq_true rfl) (kb_1_targetNumber_0 (k := ?_))
  have := loop K 0 i (by omega) hi2 hn (nI i) none
  rw [nI_0] at this
  exact this
theorem le_D.sJ (h : le_D σ L y care order tm N) (o : Nat) (v : Int64) : le_D (am_sJ σ o v) L y care order tm N := h
theorem am_Wo.sJ (h : am_Wo σ N K T tb fl nx) (o : Nat) (v : Int64) : am_Wo (am_sJ σ o v) N K T tb fl nx := h
theorem le_Fr.sJ {τ : am_St} (h : le_Fr L σ τ) (v : Int64) : le_Fr L σ (am_sJ τ L v) := fun o ho => ⟨(h o ho).1, (h o ho).2.1, by rw [am_J_sJ, if_neg (fun z => ho (Or.inl z))]; exact (h o ho).2.2.1, (h o ho).2.2.2⟩
theorem sp_1_drawRun (h : le_D σ L y care order tm N) (hW : am_Wo σ N K T tb fl nx) {sd n : Nat} (hsd : sd < 2 ^ 31) (hn : n ≤ 100) : am_C false ya_1_drawRun (d + 2) [.ref (am_oid L), .int (nI sd), .int (nI n)] σ (fun r τ => r = some (.int (rn_fin N K fl nx y.1 sd n).2) ∧ le_D τ L ((rn_fin N K fl nx y.1 sd n).1, y.2) care order tm N ∧ le_Fr L σ τ) := by
  obtain ⟨w1, w2, w3, w4, w5, w6, w7, w8⟩ := id hW
  obtain ⟨hL, hS, hst, ht3, ht4, hne, hTr, hal, g9, g10, g11, g12, g13, g6, g7, g8⟩ := id h
  obtain ⟨c1, e0, e1, e2, c9, c0, c5⟩ := le_lk hL
  have hLo : L ≠ L + 2 := by omega
  have hS' : am_Sm σ (L + 2) y.1.1 y.1.2.1 y.1.2.2.1 y.1.2.2.2.1 y.1.2.2.2.2.1 y.1.2.2.2.2.2 := hS
  generalize hQ : (fun (r : Option Value) (τ : am_St) => r = some (.int (rn_fin N K fl nx y.1 sd n).2) ∧ le_D τ L ((rn_fin N K fl nx y.1 sd n).1, y.2) care order tm N ∧ le_Fr L σ τ) = Q
  obtain ⟨b, hb⟩ : ∃ b, b = am_cn (fun s => fl s 0) N := ⟨_, rfl⟩
  have hbl : b ≤ 600 := by rw [hb]; exact Nat.le_trans (am_cn_le _ _) w1
  refine am_enter rfl (by simp [Value.category]) (Nat.le_of_ble_eq_true rfl) ?_
  refine kb_1_drawRun_0 (hC := by rw [e0]; exact sp_9_flagged (w := 0) hW (by decide)) (k := fun r τ hr => ?_)
  obtain ⟨rfl, rfl⟩ := hr
  rw [← hb]
  by_cases hb0 : b = 0
  · refine kb_1_drawRun_8 (kt := fun z => absurd (by rw [hb0]; exact nI_0) z) (kf := fun _ => kb_1_drawRun_13 ?_)
    have eR : rn_fin N K fl nx y.1 sd n = (y.1, -1) := by unfold rn_fin; rw [if_pos (by rw [← hb]; exact hb0)]
    rw [← hQ, eR]
    exact ⟨rfl, h, le_Fr.rf⟩
  · refine kb_1_drawRun_8 (kt := fun _ => ?_) (kf := fun z => absurd z (nI_ne0 (by omega) (by omega)))
    have hv : dr_v sd b < b := Nat.mod_lt _ (by omega)
    obtain ⟨s0, hs0, -, hs0', -⟩ := am_nth_some (p := fun s => fl s 0) N 0 (dr_v sd b) (by rw [am_rc_0, ← hb]; exact hv)
    have eR : rn_fin N K fl nx y.1 sd n = (match rn_go nx K (tg_gd y.1) n s0 (dr_sd sd) with | none => (y.1, -2) | some s => match te_tell y.1 s 1 with | none => (y.1, -1) | some p => (p.1, nI p.2)) := by
      unfold rn_fin; rw [if_neg (by rw [← hb]; exact hb0), ← hb, hs0]; rfl
    refine kb_1_drawRun_15 (hC := by rw [nI_l hsd]; exact sp_1_draw (c := b) hL hsd (by rw [am_J_sJ, if_pos rfl]) (by omega) (by omega)) (k := fun r τ1 hr => ?_)
    obtain ⟨rfl, hτ1⟩ := hr
    have hW1 : am_Wo τ1 N K T tb fl nx := by rw [hτ1]; exact hW
    have hD1 : le_D τ1 L y care order tm N := by rw [hτ1]; exact h
    have hF1 : le_Fr L τ τ1 := by rw [hτ1]; exact (le_Fr.rf.sJ _).sJ _
    have hJ1 : am_J τ1 L = lN (dr_sd sd) := by rw [hτ1, am_J_sJ, if_pos rfl]
    refine kb_1_drawRun_27 (hC := sp_1_startNumber hL hW1 (by omega) hs0) (k := fun r τ2 hr => ?_)
    obtain ⟨rfl, rfl⟩ := hr
    refine kb_1_drawRun_30 (k := ?_)
    -- a state that isn't told good is told so
    have tellAll : ∀ (j k s sd' : Nat) (τ3 : am_St), s < N → le_D τ3 L y care order tm N → le_Fr L τ τ3 → rn_go nx K (tg_gd y.1) n s0 (dr_sd sd) = rn_go nx K (tg_gd y.1) j s sd' → ∀ (a1 a3 : Int32) (a7 : Option Value), tg_gd y.1 s = false → ∀ (a6 : Int32), am_T false ya_1_drawRun (d + 2) Q 78 [some (.ref (am_oid L)), some (.int a1), some (.int (nI n)), some (.int a3), some (.int (nI s)), some (.int (nI k)), some (.int a6), a7] [] τ3 := by
      intro j k s sd' τ3 hs hD3 hF3 hgo a1 a3 a7 hg a6
      have hgo' : rn_go nx K (tg_gd y.1) n s0 (dr_sd sd) = some s := by
        rw [hgo]
        cases j with
        | zero => show (if tg_gd y.1 s = true then none else some s) = _; rw [if_neg (by rw [hg]; decide)]
        | succ j => show (if tg_gd y.1 s = true then _ else some s) = _; rw [if_neg (by rw [hg]; decide)]
      rw [hgo'] at eR
      dsimp only at eR
      refine kb_1_drawRun_78 (Q' := fun r τ' => am_T false ya_1_drawRun (d + 2) Q 88 [some (.ref (am_oid L)), some (.int a1), some (.int (nI n)), some (.int a3), some (.int (nI s)), some (.int (nI k)), some (.int a6), a7] (r.toList ++ []) τ') (hC := ?_) (k := fun _ _ hr => hr)
      rw [e2]
      refine sp_tell (w := 1) hD3.2.1 w1 hst hs (by decide) (fun hp => ?_) (fun x' i hp τ4 hS4 hst4 _ hB4 => ?_)
      · rw [hp] at eR
        refine kb_1_drawRun_88 ?_
        rw [← hQ, eR]
        exact ⟨rfl, hD3, hF3⟩
      · rw [hp] at eR
        refine kb_1_drawRun_88 ?_
        rw [← hQ, eR]
        obtain ⟨-, -, -, -, -, -, -, -, q9, q10, q11, q12, q13, -, -, -⟩ := id hD3
        refine ⟨rfl, le_C.upd hD3 hS4 hst4 (fun o k z _ => hB4.1 o k z) (fun o k z _ => hB4.2.1 o k z) (fun o k => ?_) (fun k _ _ => hB4.1 L k hLo) ?_ ?_ ?_ ?_ ?_, hF3.tr (le_fr_of (fun o k z _ => hB4.1 o k z) (fun o k z _ => hB4.2.1 o k z) hB4.2.2)⟩
        · unfold am_R; rw [hB4.2.2]
        · rw [hB4.1 L 9 hLo]; exact q9
        · rw [hB4.1 L 10 hLo]; exact q10
        · rw [hB4.1 L 11 hLo]; exact q11
        · rw [hB4.1 L 12 hLo]; exact q12
        · rw [hB4.1 L 13 hLo]; exact q13
    have point : ∀ (j k s : Nat) (τ3 : am_St), k + j = n → s < N → am_Sm τ3 (L + 2) y.1.1 y.1.2.1 y.1.2.2.1 y.1.2.2.2.1 y.1.2.2.2.2.1 y.1.2.2.2.2.2 → ∀ (a1 a3 : Int32) (a6 a7 : Option Value), (tg_gd y.1 s = false → ∀ (a6 : Int32), am_T false ya_1_drawRun (d + 2) Q 78 [some (.ref (am_oid L)), some (.int a1), some (.int (nI n)), some (.int a3), some (.int (nI s)), some (.int (nI k)), some (.int a6), a7] [] τ3) → (tg_gd y.1 s = true → ∀ (a6 : Int32), am_T false ya_1_drawRun (d + 2) Q 89 [some (.ref (am_oid L)), some (.int a1), some (.int (nI n)), some (.int a3), some (.int (nI s)), some (.int (nI k)), some (.int a6), a7] [] τ3) → am_T false ya_1_drawRun (d + 2) Q 35 [some (.ref (am_oid L)), some (.int a1), some (.int (nI n)), some (.int a3), some (.int (nI s)), some (.int (nI k)), a6, a7] [] τ3 := by
      intro j k s τ3 hk hs hS3 a1 a3 a6 a7 tell good
      refine kb_1_drawRun_35 (kt := fun z => absurd z (nI_nlt (by omega) (by omega))) (kf := fun _ => ?_)
      refine kb_1_drawRun_41 (kt := fun z => absurd z (nI_pos (by omega))) (kf := fun _ => ?_)
      have v : vp_in (nI s) 600 := vp_in_nI (by omega) (by omega)
      rcases hS3.pt s (by omega) with ⟨i, a1', a2', a3'⟩ | ⟨a1', a2'⟩
      · have hi200 : i < 200 := Nat.lt_of_lt_of_le a1' hS3.2.1
        have eP : am_A τ3 (am_lk L 2) 6 (nI s).toNatClampNeg = nI i := by rw [e2, nI_clamp (by omega)]; exact a3'
        have eg : tg_gd y.1 s = am_bt 1 (nI (y.1.2.2.2.1 i)) := by unfold tg_gd; rw [hS3.find a1' a2']
        refine kb_1_drawRun_46 (hi0 := v) (kt := fun z => absurd z (by rw [eP]; exact nI_pos (by omega))) (kf := fun _ => ?_)
        rw [eP]
        have eD : am_A τ3 (am_lk L 2) 3 (nI i).toNatClampNeg = nI (y.1.2.2.2.1 i) := by rw [e2, nI_clamp (by omega)]; exact (hS3.2.2.2.2.2.1 i a1').2.2.1
        refine kb_1_drawRun_63 (hi0 := vp_in_nI hi200 (by omega)) (kt := fun z => ?_) (kf := fun z => ?_)
        · rw [eD, am_bt_0] at z
          exact good (by rw [eg]; simpa using z) _
        · rw [eD, am_bt_0] at z
          exact tell (by rw [eg]; exact z) _
      · have eP : am_A τ3 (am_lk L 2) 6 (nI s).toNatClampNeg = -2 := by rw [e2, nI_clamp (by omega)]; exact a2'
        have eg : tg_gd y.1 s = false := by unfold tg_gd; rw [sm_find_none a1']
        refine kb_1_drawRun_46 (hi0 := v) (kt := fun _ => ?_) (kf := fun z => absurd (by rw [eP]; exact am_neg2) z)
        rw [eP]
        exact tell eg _
    have loop : ∀ (j k s sd' : Nat) (τ3 : am_St), k + j = n → s < N → sd' < 2 ^ 31 → am_Wo τ3 N K T tb fl nx → le_D τ3 L y care order tm N → le_Fr L τ τ3 → am_J τ3 L = lN sd' → rn_go nx K (tg_gd y.1) n s0 (dr_sd sd) = rn_go nx K (tg_gd y.1) j s sd' → ∀ (a1 a3 : Int32) (a6 a7 : Option Value), am_T false ya_1_drawRun (d + 2) Q 35 [some (.ref (am_oid L)), some (.int a1), some (.int (nI n)), some (.int a3), some (.int (nI s)), some (.int (nI k)), a6, a7] [] τ3 := by
      intro j
      induction j with
      | zero =>
        intro k s sd' τ3 hk hs hsd' hW3 hD3 hF3 hJ3 hgo a1 a3 a6 a7
        have hS3 : am_Sm τ3 (L + 2) y.1.1 y.1.2.1 y.1.2.2.1 y.1.2.2.2.1 y.1.2.2.2.2.1 y.1.2.2.2.2.2 := hD3.2.1
        have tell : tg_gd y.1 s = false → ∀ (a6 : Int32), am_T false ya_1_drawRun (d + 2) Q 78 [some (.ref (am_oid L)), some (.int a1), some (.int (nI n)), some (.int a3), some (.int (nI s)), some (.int (nI k)), some (.int a6), a7] [] τ3 := tellAll 0 k s sd' τ3 hs hD3 hF3 hgo a1 a3 a7
        have good : tg_gd y.1 s = true → ∀ (a6 : Int32), am_T false ya_1_drawRun (d + 2) Q 89 [some (.ref (am_oid L)), some (.int a1), some (.int (nI n)), some (.int a3), some (.int (nI s)), some (.int (nI k)), some (.int a6), a7] [] τ3 := fun hg a6 => by
          have hgo' : rn_go nx K (tg_gd y.1) n s0 (dr_sd sd) = none := by
            rw [hgo]; show (if tg_gd y.1 s = true then none else some s) = none; rw [if_pos hg]
          rw [hgo'] at eR
          refine kb_1_drawRun_89 (hC := by rw [e0]; exact sp_9_stepsFrom hW3 hs) (k := fun r τ4 hr => ?_)
          obtain ⟨rfl, rfl⟩ := hr
          refine kb_1_drawRun_98 (kt := fun _ => kb_1_drawRun_126 (k := kb_1_drawRun_127 (k := ?_))) (kf := fun z => absurd (nI_le (by omega) (by omega)) z)
          rw [nI_1]
          refine kb_1_drawRun_35 (kt := fun _ => kb_1_drawRun_135 ?_) (kf := fun z => absurd (nI_lt (by omega) (by omega)) z)
          rw [← hQ, eR]
          exact ⟨rfl, hD3, hF3⟩
        exact point 0 k s τ3 (by omega) hs hS3 a1 a3 a6 a7 tell good
      | succ j ih =>
        intro k s sd' τ3 hk hs hsd' hW3 hD3 hF3 hJ3 hgo a1 a3 a6 a7
        have hS3 : am_Sm τ3 (L + 2) y.1.1 y.1.2.1 y.1.2.2.1 y.1.2.2.2.1 y.1.2.2.2.2.1 y.1.2.2.2.2.2 := hD3.2.1
        have tell : tg_gd y.1 s = false → ∀ (a6 : Int32), am_T false ya_1_drawRun (d + 2) Q 78 [some (.ref (am_oid L)), some (.int a1), some (.int (nI n)), some (.int a3), some (.int (nI s)), some (.int (nI k)), some (.int a6), a7] [] τ3 := tellAll (j + 1) k s sd' τ3 hs hD3 hF3 hgo a1 a3 a7
        have hcn : nx_cn nx K s ≤ 8 := Nat.le_trans (am_cn_le _ _) w2
        have good : tg_gd y.1 s = true → ∀ (a6 : Int32), am_T false ya_1_drawRun (d + 2) Q 89 [some (.ref (am_oid L)), some (.int a1), some (.int (nI n)), some (.int a3), some (.int (nI s)), some (.int (nI k)), some (.int a6), a7] [] τ3 := fun hg a6 => by
          have hgo' : rn_go nx K (tg_gd y.1) n s0 (dr_sd sd) = if nx_cn nx K s = 0 then none else rn_go nx K (tg_gd y.1) j (nx_at nx K s (dr_v sd' (nx_cn nx K s))) (dr_sd sd') := by
            rw [hgo]; show (if tg_gd y.1 s = true then _ else some s) = _; rw [if_pos hg]
          refine kb_1_drawRun_89 (hC := by rw [e0]; exact sp_9_stepsFrom hW3 hs) (k := fun r τ4 hr => ?_)
          obtain ⟨rfl, rfl⟩ := hr
          refine kb_1_drawRun_98 (kt := fun z => absurd z (nI_ge (by omega) (by omega))) (kf := fun _ => ?_)
          refine kb_1_drawRun_106 (kt := fun z => ?_) (kf := fun z => ?_)
          · have hz : nx_cn nx K s = 0 := by
              rcases Nat.eq_zero_or_pos (nx_cn nx K s) with c | c
              · exact c
              · exact absurd z (nI_nle c (by omega))
            rw [if_pos hz] at hgo'
            rw [hgo'] at eR
            refine kb_1_drawRun_126 (k := kb_1_drawRun_127 (k := ?_))
            rw [nI_1]
            refine kb_1_drawRun_35 (kt := fun c => absurd c (nI_nlt (by omega) (by omega))) (kf := fun _ => kb_1_drawRun_41 (kt := fun _ => kb_1_drawRun_135 ?_) (kf := fun c => absurd am_neg1 c))
            rw [← hQ, eR]
            exact ⟨rfl, hD3, hF3⟩
          · have hz : nx_cn nx K s ≠ 0 := fun c => z (by rw [c, nI_0]; exact Int32.le_refl 0)
            rw [if_neg hz] at hgo'
            refine kb_1_drawRun_111 (hC := sp_1_draw (c := nx_cn nx K s) hL hsd' hJ3 (by omega) (by omega)) (k := fun r τ5 hr => ?_)
            obtain ⟨rfl, hτ5⟩ := hr
            have hW5 : am_Wo τ5 N K T tb fl nx := by rw [hτ5]; exact hW3
            have hv5 : dr_v sd' (nx_cn nx K s) < nx_cn nx K s := Nat.mod_lt _ (by omega)
            obtain ⟨-, -, -, -, hlt⟩ := nx_at_lt (fun k hk => (w8 s hs k hk).2) hv5
            refine kb_1_drawRun_120 (hC := sp_1_targetNumber hL hW5 hs hv5) (k := fun r τ6 hr => ?_)
            obtain ⟨rfl, rfl⟩ := hr
            refine kb_1_drawRun_123 (k := kb_1_drawRun_127 (k := ?_))
            rw [nI_1]
            exact ih (k + 1) _ (dr_sd sd') τ6 (by omega) hlt (dr_sd_lt _) hW5 (by rw [hτ5]; exact hD3) (by rw [hτ5]; exact hF3.sJ _) (by rw [hτ5, am_J_sJ, if_pos rfl]) hgo' _ _ _ _
        exact point (j + 1) k s τ3 (by omega) hs hS3 a1 a3 a6 a7 tell good
    have := loop n 0 s0 (dr_sd sd) τ2 (by omega) (by omega) (dr_sd_lt sd) hW1 hD1 hF1 hJ1 rfl (nI sd) (nI b) none none
    rw [nI_0] at this
    exact this
end RUN
