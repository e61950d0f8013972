/-! the class's Shortener: dropRows, shorten, what it answers -/
def sh_kl (out : Nat → Bool) (R : Nat → List Nat) : Nat → List (List Nat)
  | 0 => []
  | k + 1 => sh_kl out R k ++ (if out k = true then [] else [R k])
theorem sh_kl_cg {out out' : Nat → Bool} {R : Nat → List Nat} {k : Nat} (h : ∀ j, j < k → out j = out' j) : sh_kl out R k = sh_kl out' R k := by
  induction k with
  | zero => rfl
  | succ k ih =>
    show sh_kl out R k ++ _ = sh_kl out' R k ++ _
    rw [ih (fun j hj => h j (by omega)), h k (by omega)]
theorem sh_kl_le {out : Nat → Bool} {R : Nat → List Nat} {k : Nat} : (sh_kl out R k).length ≤ k := by
  induction k with
  | zero => exact Nat.le_refl _
  | succ k ih =>
    show (sh_kl out R k ++ _).length ≤ _
    rw [List.length_append]
    split
    · simp; omega
    · simp; omega
theorem sh_kl_ok {out : Nat → Bool} {R : Nat → List Nat} (h : ∀ k, rw_ok (R k) ∧ (R k).length ≤ 16) : ∀ k row, row ∈ sh_kl out R k → rw_ok row ∧ row.length ≤ 16 := by
  intro k
  induction k with
  | zero => intro row hr; cases hr
  | succ k ih =>
    intro row hr
    rcases List.mem_append.mp (show row ∈ sh_kl out R k ++ (if out k = true then [] else [R k]) from hr) with z | z
    · exact ih row z
    · split at z
      · cases z
      · have : row = R k := by simpa using z
        rw [this]; exact h k
theorem sh_rs_ge {pv : (Nat → Bool) → Bool} : ∀ (k j : Nat), k ≤ j → sh_rs pv k j = false := by
  intro k
  induction k with
  | zero => intro j _; rfl
  | succ k ih =>
    intro j hj
    show am_uB (sh_rs pv k) k _ j = false
    unfold am_uB
    rw [if_neg (by omega)]; exact ih j (by omega)
theorem am_uB_id {o : Nat → Bool} {k : Nat} : am_uB o k (o k) = o := by
  funext i; unfold am_uB
  by_cases c : i = k
  · rw [if_pos c, c]
  · rw [if_neg c]
theorem nI_ix16 (k i : Nat) : nI k * 16 + nI i = nI (16 * k + i) := by rw [show (16 : Int32) = nI 16 from rfl, nI_mul, nI_add, Nat.mul_comm]
theorem sh_Rw.s7 {τ : am_St} {k : Nat} {row : List Nat} (h : sh_Rw τ k row) (F : Nat → Int32) : sh_Rw (am_sA τ 14 7 F) k row := by
  unfold sh_Rw at h ⊢
  have e : ∀ q, q ≠ 7 → am_A (am_sA τ 14 7 F) 14 q = am_A τ 14 q := fun q hq => by rw [am_A_sA, if_neg (fun z => hq z.1)]
  rw [e 3 (by decide), e 4 (by decide), e 5 (by decide), e 6 (by decide)]
  exact h
/-- a row that was kept: its length and its entries (its masks are never asked for again) -/
def sh_Re (σ : am_St) (k : Nat) (row : List Nat) : Prop := am_A σ 14 3 k = nI row.length ∧ (∀ i, i < row.length → am_A σ 14 4 (16 * k + i) = rl_e row i)
theorem sh_Re.s7 {τ : am_St} {k : Nat} {row : List Nat} (h : sh_Re τ k row) (F : Nat → Int32) : sh_Re (am_sA τ 14 7 F) k row := by
  unfold sh_Re at h ⊢
  have e : ∀ q, q ≠ 7 → am_A (am_sA τ 14 7 F) 14 q = am_A τ 14 q := fun q hq => by rw [am_A_sA, if_neg (fun z => hq z.1)]
  rw [e 3 (by decide), e 4 (by decide)]
  exact h
section SHR
variable {d N K T r : Nat} {tb : Nat → Int32} {fl : Nat → Nat → Bool} {nx : Nat → Nat → Option Nat} {R : Nat → List Nat} {σ : am_St}
theorem sp_6_dropRows (hW : am_Wo σ N K T tb fl nx) (hr : r ≤ 200) (hI : am_I σ 14 1 = nI r) (hR : ∀ k, k < r → sh_Rw σ k (R k)) (hC : sh_Cv σ N tb r R (fun _ => false)) (hok : ∀ k, rw_ok (R k) ∧ (R k).length ≤ 16) : am_C false ya_6_dropRows (d + 2) [.ref (am_oid 14)] σ (fun r' τ => r' = none ∧ am_On 14 σ τ ∧ am_I τ 14 1 = nI (sh_kl (sh_rs (fun o => rs_P N K tb fl nx r R o) r) R r).length ∧ (∀ j, j < (sh_kl (sh_rs (fun o => rs_P N K tb fl nx r R o) r) R r).length → sh_Re τ j (rl_f (sh_kl (sh_rs (fun o => rs_P N K tb fl nx r R o) r) R r) j)) ∧ sh_Cv τ N tb r R (sh_rs (fun o => rs_P N K tb fl nx r R o) r)) := by
  obtain ⟨pv, hpv⟩ : ∃ pv : (Nat → Bool) → Bool, pv = fun o => rs_P N K tb fl nx r R o := ⟨_, rfl⟩
  rw [← hpv]
  generalize hQ : (fun (r' : Option Value) (τ : am_St) => r' = none ∧ am_On 14 σ τ ∧ am_I τ 14 1 = nI (sh_kl (sh_rs pv r) R r).length ∧ (∀ j, j < (sh_kl (sh_rs pv r) R r).length → sh_Re τ j (rl_f (sh_kl (sh_rs pv r) R r) j)) ∧ sh_Cv τ N tb r R (sh_rs pv r)) = Q
  have loop : ∀ (j k : Nat), k + j = r → ∀ τ : am_St, am_On 14 σ τ → (∀ q, am_I τ 14 q = am_I σ 14 q) → (∀ p, p < (sh_kl (sh_rs pv k) R k).length → sh_Re τ p (rl_f (sh_kl (sh_rs pv k) R k) p)) → (∀ p, k ≤ p → p < r → sh_Rw τ p (R p)) → sh_Cv τ N tb r R (sh_rs pv k) → ∀ a3 : Option Value, am_T false ya_6_dropRows (d + 2) Q 4 [some (.ref (am_oid 14)), some (.int (nI (sh_kl (sh_rs pv k) R k).length)), some (.int (nI k)), a3] [] τ := by
    intro j
    induction j with
    | zero =>
      intro k hk τ D1 D2 D3 D4 C a3
      have : k = r := by omega
      subst this
      refine kb_6_dropRows_4 (kt := fun _ => kb_6_dropRows_114 (hq := ?_)) (kf := fun z => absurd (by rw [D2, hI]; exact nI_le (by omega) (by omega)) z)
      rw [← hQ]
      exact ⟨rfl, D1.sI 1 _, by rw [am_I_sI, if_pos ⟨rfl, rfl⟩], D3, C⟩
    | succ j ih =>
      intro k hk τ D1 D2 D3 D4 C a3
      obtain ⟨o, ho⟩ : ∃ o, o = sh_rs pv k := ⟨_, rfl⟩
      have hok0 : o k = false := by rw [ho]; exact sh_rs_ge k k (Nat.le_refl _)
      have hs1 : sh_rs pv (k + 1) = am_uB o k (pv (am_uB o k true)) := by rw [ho]; rfl
      obtain ⟨m, hm⟩ : ∃ m, m = (sh_kl o R k).length := ⟨_, rfl⟩
      have hmk : m ≤ k := by rw [hm]; exact sh_kl_le
      rw [← ho] at D3 C ⊢
      have kl0 : sh_kl (sh_rs pv (k + 1)) R k = sh_kl o R k := sh_kl_cg (fun i hi => by rw [hs1]; unfold am_uB; rw [if_neg (by omega)])
      have kl1 : sh_kl (sh_rs pv (k + 1)) R (k + 1) = sh_kl o R k ++ (if pv (am_uB o k true) = true then [] else [R k]) := by
        show sh_kl (sh_rs pv (k + 1)) R k ++ (if sh_rs pv (k + 1) k = true then [] else [R k]) = _
        rw [kl0, hs1]; unfold am_uB; rw [if_pos rfl]
      obtain ⟨bs, hbs⟩ : ∃ bs : Nat → Nat, bs = fun s => am_cn (fun j => !(j == k) && (!o j && rw_h (tb s) (R j))) r := ⟨_, rfl⟩
      have cf : ∀ s, am_cn (fun j => !o j && rw_h (tb s) (R j)) r = bs s + (if rw_h (tb s) (R k) = true then 1 else 0) := fun s => by
        have := cn_uB (R := R) (out := o) (x := tb s) (b := false) (show k < r by omega)
        have e : am_uB o k false = o := by rw [← hok0]; exact am_uB_id
        rw [e] at this
        rw [hbs]; exact this
      have ct : ∀ s, am_cn (fun j => !am_uB o k true j && rw_h (tb s) (R j)) r = bs s := fun s => by
        rw [cn_uB (show k < r by omega), hbs]; rfl
      have vk : vp_in (nI k) 200 := vp_in_nI (by omega) (by omega)
      have ck : (nI k).toNatClampNeg = k := nI_clamp (by omega)
      obtain ⟨q1, q2, q3, q4⟩ := D4 k (Nat.le_refl _) (by omega)
      have eM : am_A τ 14 5 (nI k).toNatClampNeg = rw_m rw_a (R k) := by rw [ck]; exact q3
      have eG : am_A τ 14 6 (nI k).toNatClampNeg = rw_m rw_g (R k) := by rw [ck]; exact q4
      have W0 : am_Wo τ N K T tb fl nx := D1.wo (by decide) hW
      rw [← hm]
      refine kb_6_dropRows_4 (kt := fun z => absurd z (by rw [D2, hI]; exact nI_ge (by omega) (by omega))) (kf := fun _ => ?_)
      refine kb_6_dropRows_12 (hi0 := vk) (hi1 := vk) (hC := by rw [eM, eG]; exact sp_6_addCover W0 (hok k).1 (-1)) (k := fun r' τ1 hr' => ?_)
      obtain ⟨rfl, F1, hτ1, hF1⟩ := hr'
      have W1 : am_Wo τ1 N K T tb fl nx := by rw [hτ1]; exact (am_On.rf.sA 7 F1).wo (by decide) W0
      have C1 : sh_Cv τ1 N tb r R (am_uB o k true) := fun s hs => by
        rw [hτ1, am_A_sA, if_pos ⟨rfl, rfl⟩, hF1 s hs, C s hs, cf, ct]; exact nI_bdec _ _
      refine kb_6_dropRows_29 (hC := sp_6_proves W1 (C1.held hr)) (k := fun r' τ2 hr' => ?_)
      obtain ⟨rfl, rfl⟩ := hr'
      have ep : rs_pv N K fl nx (fun s => rs_in R (am_uB o k true) r (tb s)) = pv (am_uB o k true) := by rw [hpv]; rfl
      rw [ep]
      have O1 : am_On 14 σ τ2 := by rw [hτ1]; exact D1.sA 7 F1
      have I1 : ∀ q, am_I τ2 14 q = am_I σ 14 q := by rw [hτ1]; exact D2
      have R3 : ∀ p, p < m → sh_Re τ2 p (rl_f (sh_kl o R k) p) := fun p hp => by rw [hτ1]; exact (D3 p (by omega)).s7 F1
      have R4 : ∀ p, k ≤ p → p < r → sh_Rw τ2 p (R p) := fun p h1 h2 => by rw [hτ1]; exact (D4 p h1 h2).s7 F1
      refine kb_6_dropRows_33 (kt := fun z => ?_) (kf := fun z => ?_)
      · rw [am_bI_0] at z
        have zt : pv (am_uB o k true) = true := by simpa using z
        rw [zt] at hs1 kl1
        rw [if_pos rfl, List.append_nil] at kl1
        refine kb_6_dropRows_108 (k := ?_)
        rw [nI_1]
        have next := ih (k + 1) (by omega) τ2 O1 I1 (by rw [kl1, ← hm]; exact R3) (fun p h1 h2 => R4 p (by omega) h2) (by rw [hs1]; exact C1) a3
        rw [kl1, ← hm] at next
        exact next
      · rw [am_bI_0] at z
        rw [z] at hs1 kl1
        rw [if_neg (by decide)] at kl1
        have eo : am_uB o k false = o := by rw [← hok0]; exact am_uB_id
        rw [eo] at hs1
        have eM2 : am_A τ2 14 5 (nI k).toNatClampNeg = rw_m rw_a (R k) := by rw [ck]; exact (R4 k (Nat.le_refl _) (by omega)).2.2.1
        have eG2 : am_A τ2 14 6 (nI k).toNatClampNeg = rw_m rw_g (R k) := by rw [ck]; exact (R4 k (Nat.le_refl _) (by omega)).2.2.2
        refine kb_6_dropRows_36 (hi0 := vk) (hi1 := vk) (hC := by rw [eM2, eG2]; exact sp_6_addCover W1 (hok k).1 1) (k := fun r' τ3 hr' => ?_)
        obtain ⟨rfl, F2, hτ3, hF2⟩ := hr'
        have C3 : sh_Cv τ3 N tb r R o := fun s hs => by
          rw [hτ3, am_A_sA, if_pos ⟨rfl, rfl⟩, hF2 s hs, C1 s hs, cf, ct]; exact nI_binc _ _
        have O3 : am_On 14 σ τ3 := by rw [hτ3]; exact O1.sA 7 F2
        have I3 : ∀ q, am_I τ3 14 q = am_I σ 14 q := by rw [hτ3]; exact I1
        have R33 : ∀ p, p < m → sh_Re τ3 p (rl_f (sh_kl o R k) p) := fun p hp => by rw [hτ3]; exact (R3 p hp).s7 F2
        have R34 : ∀ p, k ≤ p → p < r → sh_Rw τ3 p (R p) := fun p h1 h2 => by rw [hτ3]; exact (R4 p h1 h2).s7 F2
        obtain ⟨x1, x2, -, -⟩ := R34 k (Nat.le_refl _) (by omega)
        have vm : vp_in (nI m) 200 := vp_in_nI (by omega) (by omega)
        have cm : (nI m).toNatClampNeg = m := nI_clamp (by omega)
        refine kb_6_dropRows_53 (hi0 := vk) (hi1 := vm) (k := ?_)
        rw [ck, cm, x1]
        obtain ⟨υ, hυ⟩ : ∃ υ, υ = am_sA τ3 14 3 (upd (am_A τ3 14 3) m (nI (R k).length)) := ⟨_, rfl⟩
        rw [← hυ]
        have u3 : am_A υ 14 3 = upd (am_A τ3 14 3) m (nI (R k).length) := by rw [hυ, am_A_sA, if_pos ⟨rfl, rfl⟩]
        have u4 : am_A υ 14 4 = am_A τ3 14 4 := by rw [hυ, am_A_sA, if_neg (by simp)]
        have u5 : am_A υ 14 5 = am_A τ3 14 5 := by rw [hυ, am_A_sA, if_neg (by simp)]
        have u6 : am_A υ 14 6 = am_A τ3 14 6 := by rw [hυ, am_A_sA, if_neg (by simp)]
        have u7 : am_A υ 14 7 = am_A τ3 14 7 := by rw [hυ, am_A_sA, if_neg (by simp)]
        have uO : am_On 14 σ υ := by rw [hυ]; exact O3.sA 3 _
        have uI : ∀ q, am_I υ 14 q = am_I σ 14 q := by rw [hυ]; exact I3
        have hl16 := (hok k).2
        have l3 : am_A υ 14 3 k = nI (R k).length := by
          rw [u3]
          by_cases c : k = m
          · rw [c, upd_s]
          · rw [upd_n c]; exact x1
        have copy : ∀ (j2 i : Nat), i + j2 = (R k).length → ∀ E : Nat → Int32, (∀ z, z < (R k).length → E (16 * k + z) = rl_e (R k) z) → (∀ z, z < i → E (16 * m + z) = rl_e (R k) z) → (∀ z, z < 16 * m ∨ 16 * m + 16 ≤ z → E z = am_A τ3 14 4 z) → am_T false ya_6_dropRows (d + 2) Q 67 [some (.ref (am_oid 14)), some (.int (nI m)), some (.int (nI k)), some (.int (nI i))] [] (am_sA υ 14 4 E) := by
          intro j2
          induction j2 with
          | zero =>
            intro i hi E hE1 hE2 hE3
            have e : ∀ q, q ≠ 4 → am_A (am_sA υ 14 4 E) 14 q = am_A υ 14 q := fun q hq => by rw [am_A_sA, if_neg (fun z => hq z.1)]
            have e4 : am_A (am_sA υ 14 4 E) 14 4 = E := by rw [am_A_sA, if_pos ⟨rfl, rfl⟩]
            refine kb_6_dropRows_67 (hi0 := vk) (kt := fun _ => kb_6_dropRows_105 (k := kb_6_dropRows_108 (k := ?_))) (kf := fun z => absurd (by rw [ck, e 3 (by decide), l3]; exact nI_le (by omega) (by omega)) z)
            rw [nI_1, nI_1]
            have next := ih (k + 1) (by omega) (am_sA υ 14 4 E) (uO.sA 4 E) uI (fun p hp => ?_) (fun p h1 h2 => ?_) (fun s hs => ?_) (some (.int (nI i)))
            · rw [kl1, List.length_append, ← hm] at next
              exact next
            · rw [kl1, List.length_append, ← hm] at hp
              have hp' : p < m + 1 := hp
              rw [kl1]
              unfold sh_Re
              rw [e 3 (by decide), e4, u3]
              by_cases c : p = m
              · subst c
                have : rl_f (sh_kl o R k ++ [R k]) p = R k := by rw [hm]; exact rl_f_mid _ _ _
                rw [this, upd_s]
                exact ⟨rfl, fun z hz => hE2 z (by omega)⟩
              · rw [rl_f_app (by omega), upd_n c]
                obtain ⟨y1, y2⟩ := R33 p (by omega)
                refine ⟨y1, fun z hz => ?_⟩
                have := (rl_f_ok (sh_kl_ok (out := o) hok k) p).2
                rw [hE3 _ (Or.inl (by omega))]; exact y2 z hz
            · unfold sh_Rw
              rw [e 3 (by decide), e4, e 5 (by decide), e 6 (by decide), u3, u5, u6, upd_n (by omega)]
              obtain ⟨y1, y2, y3, y4⟩ := R34 p (by omega) h2
              refine ⟨y1, fun z hz => ?_, y3, y4⟩
              rw [hE3 _ (Or.inr (by omega))]; exact y2 z hz
            · rw [e 7 (by decide), u7, hs1]; exact C3 s hs
          | succ j2 ih2 =>
            intro i hi E hE1 hE2 hE3
            have e3' : am_A (am_sA υ 14 4 E) 14 3 = am_A υ 14 3 := by rw [am_A_sA, if_neg (by simp)]
            have e4 : am_A (am_sA υ 14 4 E) 14 4 = E := by rw [am_A_sA, if_pos ⟨rfl, rfl⟩]
            refine kb_6_dropRows_67 (hi0 := vk) (kt := fun z => absurd z (by rw [ck, e3', l3]; exact nI_ge (by omega) (by omega))) (kf := fun _ => ?_)
            refine kb_6_dropRows_77 (hi0 := by rw [nI_ix16]; exact vp_in_nI (by omega) (by omega)) (hi1 := by rw [nI_ix16]; exact vp_in_nI (by omega) (by omega)) (k := ?_)
            rw [nI_ix16, nI_ix16, nI_clamp (show 16 * m + i < 2 ^ 31 by omega), nI_clamp (show 16 * k + i < 2 ^ 31 by omega), nI_1, e4, am_sA_sA, hE1 i (by omega)]
            refine ih2 (i + 1) (by omega) _ (fun z hz => ?_) (fun z hz => ?_) (fun z hz => ?_)
            · by_cases c : 16 * k + z = 16 * m + i
              · rw [c, upd_s, show z = i by omega]
              · rw [upd_n c]; exact hE1 z hz
            · by_cases c : z = i
              · rw [c, upd_s]
              · rw [upd_n (by omega)]; exact hE2 z (by omega)
            · rw [upd_n (by omega)]; exact hE3 z hz
        have := copy (R k).length 0 (by omega) (am_A υ 14 4) (fun z hz => by rw [u4]; exact x2 z hz) (fun z hz => absurd hz (Nat.not_lt_zero z)) (fun z _ => by rw [u4])
        rw [am_sA_id, nI_0] at this
        exact this
  refine am_enter rfl (by simp [Value.category]) (Nat.le_of_ble_eq_true rfl) (kb_6_dropRows_0 (k := ?_))
  have := loop r 0 (by omega) σ am_On.rf (fun _ => rfl) (fun p hp => absurd hp (Nat.not_lt_zero p)) (fun p _ hp => hR p hp) hC none
  rw [show (sh_kl (sh_rs pv 0) R 0).length = 0 from rfl, nI_0] at this
  exact this
end SHR
/-! shortening as a value -/
def sw_R (N K : Nat) (tb : Nat → Int32) (fl : Nat → Nat → Bool) (nx : Nat → Nat → Option Nat) (Rs : List (List Nat)) : Nat → List Nat := sh_ts (fun R => rs_P N K tb fl nx Rs.length R (fun _ => false)) (rl_f Rs) Rs.length
def sw_O (N K : Nat) (tb : Nat → Int32) (fl : Nat → Nat → Bool) (nx : Nat → Nat → Option Nat) (Rs : List (List Nat)) : Nat → Bool := sh_rs (fun o => rs_P N K tb fl nx Rs.length (sw_R N K tb fl nx Rs) o) Rs.length
def sw_L (N K : Nat) (tb : Nat → Int32) (fl : Nat → Nat → Bool) (nx : Nat → Nat → Option Nat) (Rs : List (List Nat)) : List (List Nat) := sh_kl (sw_O N K tb fl nx Rs) (sw_R N K tb fl nx Rs) Rs.length
def sw_n (N K : Nat) (tb : Nat → Int32) (fl : Nat → Nat → Bool) (nx : Nat → Nat → Option Nat) (Rs : List (List Nat)) : Nat := am_cn (fun s => rs_in (sw_R N K tb fl nx Rs) (sw_O N K tb fl nx Rs) Rs.length (tb s)) N
def sh_Ok (τ : am_St) (N K : Nat) (tb : Nat → Int32) (fl : Nat → Nat → Bool) (nx : Nat → Nat → Option Nat) (Rs : List (List Nat)) : Prop := Rs.length ≤ 200 ∧ am_I τ 14 1 = nI (sw_L N K tb fl nx Rs).length ∧ (∀ j, j < (sw_L N K tb fl nx Rs).length → sh_Re τ j (rl_f (sw_L N K tb fl nx Rs) j)) ∧ sh_Cv τ N tb Rs.length (sw_R N K tb fl nx Rs) (sw_O N K tb fl nx Rs)
section SHS
variable {d N K T t n : Nat} {tb : Nat → Int32} {fl : Nat → Nat → Bool} {nx : Nat → Nat → Option Nat} {nd : Nat → Nat → Int32} {pt : Nat → List Nat} {Rs : List (List Nat)} {σ : am_St}
theorem sp_6_shorten (hW : am_Wo σ N K T tb fl nx) (h : am_Tr σ t n nd) (hp : tr_pt nd pt 0 n) (h0 : pt 0 = []) (h200 : (tr_rl nd pt 0 n).length ≤ 200) : am_C false ya_6_shorten (d + 3) [.ref (am_oid 14), .ref (am_oid t)] σ (fun r τ => r = none ∧ am_On 14 σ τ ∧ am_I τ 14 2 = 1 ∧ sh_Ok τ N K tb fl nx (tr_rl nd pt 0 n)) := by
  obtain ⟨Rs, hRs⟩ : ∃ Rs, Rs = tr_rl nd pt 0 n := ⟨_, rfl⟩
  have hRok : ∀ k, rw_ok (rl_f Rs k) ∧ (rl_f Rs k).length ≤ 16 := by rw [hRs]; exact rl_f_ok (tr_rl_ok hp n (by omega))
  rw [← hRs]
  have h200' : Rs.length ≤ 200 := by rw [hRs]; exact h200
  generalize hQ : (fun (r : Option Value) (τ : am_St) => r = none ∧ am_On 14 σ τ ∧ am_I τ 14 2 = 1 ∧ sh_Ok τ N K tb fl nx Rs) = Q
  refine am_enter rfl (by simp [Value.category]) (Nat.le_of_ble_eq_true rfl) ?_
  refine kb_6_shorten_0 (hC := sp_6_takeRows h hp h0 h200) (k := fun r τ hr => ?_)
  obtain ⟨rfl, hO, hI, hR⟩ := hr
  rw [← hRs] at hI hR
  refine kb_6_shorten_5 (hC := sp_fill false (d + 2) 14 7 6 600 0 τ rfl (by decide) rfl (by decide)) (k := fun r τ1 hr => ?_)
  obtain ⟨rfl, hτ1⟩ := hr
  have hO1 : am_On 14 σ τ1 := by rw [hτ1]; exact hO.sA 7 _
  have hI1 : am_I τ1 14 1 = nI Rs.length := by rw [hτ1]; exact hI
  have hR1 : ∀ k, k < Rs.length → sh_Rw τ1 k (rl_f Rs k) := fun k hk => by rw [hτ1]; exact (hR k hk).s7 _
  have hN := hW.1
  obtain ⟨pv, hpv⟩ : ∃ pv : (Nat → List Nat) → Bool, pv = fun R => rs_P N K tb fl nx Rs.length R (fun _ => false) := ⟨_, rfl⟩
  have eR : sw_R N K tb fl nx Rs = sh_ts pv (rl_f Rs) Rs.length := by rw [hpv]; rfl
  have loop2 : ∀ (j k : Nat), k + j = Rs.length → ∀ τ : am_St, am_On 14 σ τ → am_I τ 14 1 = nI Rs.length → (∀ p, p < Rs.length → sh_Rw τ p (sh_ts pv (rl_f Rs) k p)) → sh_Cv τ N tb Rs.length (sh_ts pv (rl_f Rs) k) (fun _ => false) → am_T false ya_6_shorten (d + 3) Q 48 [some (.ref (am_oid 14)), some (.ref (am_oid t)), some (.int (nI k))] [] τ := by
    intro j
    induction j with
    | zero =>
      intro k hk τ D1 D2 D3 C
      have : k = Rs.length := by omega
      subst this
      refine kb_6_shorten_48 (kt := fun _ => ?_) (kf := fun z => absurd (by rw [D2]; exact nI_le (by omega) (by omega)) z)
      refine kb_6_shorten_67 (hC := sp_6_dropRows (D1.wo (by decide) hW) h200' D2 D3 C (sh_ts_ok hRok _)) (k := fun r τ' hr => ?_)
      obtain ⟨rfl, u1, u2, u3, u4⟩ := hr
      rw [← eR] at u2 u3 u4
      refine kb_6_shorten_71 (hq := ?_)
      rw [← hQ]
      exact ⟨rfl, (D1.tr u1).sI 2 1, by rw [am_I_sI, if_pos ⟨rfl, rfl⟩], h200', by rw [am_I_sI, if_neg (by simp)]; exact u2, u3, u4⟩
    | succ j ih =>
      intro k hk τ D1 D2 D3 C
      refine kb_6_shorten_48 (kt := fun z => absurd z (by rw [D2]; exact nI_ge (by omega) (by omega))) (kf := fun _ => ?_)
      refine kb_6_shorten_56 (hC := sp_6_dropTests (D1.wo (by decide) hW) h200' D3 C (sh_ts_ok hRok k) (show k < Rs.length by omega)) (k := fun r τ' hr => ?_)
      obtain ⟨rfl, u1, u2, u3, u4⟩ := hr
      refine kb_6_shorten_61 (k := ?_)
      rw [nI_1]
      have es : am_uL (sh_ts pv (rl_f Rs) k) k (sh_row (fun x => rs_P N K tb fl nx Rs.length (am_uL (sh_ts pv (rl_f Rs) k) k x) (fun _ => false)) [] (sh_ts pv (rl_f Rs) k k)) = sh_ts pv (rl_f Rs) (k + 1) := by
        show _ = am_uL (sh_ts pv (rl_f Rs) k) k (sh_row (fun x => pv (am_uL (sh_ts pv (rl_f Rs) k) k x)) [] (sh_ts pv (rl_f Rs) k k))
        rw [hpv]
      rw [es] at u3 u4
      exact ih (k + 1) (by omega) τ' (D1.tr u1) (by rw [u2]; exact D2) u3 u4
  have loop1 : ∀ (j k : Nat), k + j = Rs.length → ∀ F : Nat → Int32, (∀ s, s < N → F s = nI (am_cn (fun q => rw_h (tb s) (rl_f Rs q)) k)) → am_T false ya_6_shorten (d + 3) Q 15 [some (.ref (am_oid 14)), some (.ref (am_oid t)), some (.int (nI k))] [] (am_sA τ1 14 7 F) := by
    intro j
    induction j with
    | zero =>
      intro k hk F hF
      have : k = Rs.length := by omega
      subst this
      refine kb_6_shorten_15 (kt := fun _ => kb_6_shorten_46 (k := ?_)) (kf := fun z => absurd (by show am_I τ1 14 1 ≤ _; rw [hI1]; exact nI_le (by omega) (by omega)) z)
      have := loop2 Rs.length 0 (by omega) (am_sA τ1 14 7 F) (hO1.sA 7 F) hI1 (fun p hp => (hR1 p hp).s7 F) (fun s hs => ?_)
      · rw [nI_0] at this; exact this
      · rw [am_A_sA, if_pos ⟨rfl, rfl⟩, hF s hs]
        congr 1
    | succ j ih =>
      intro k hk F hF
      have vk : vp_in (nI k) 200 := vp_in_nI (by omega) (by omega)
      have ck : (nI k).toNatClampNeg = k := nI_clamp (by omega)
      obtain ⟨q1, q2, q3, q4⟩ := (hR1 k (by omega)).s7 F
      have W1 : am_Wo (am_sA τ1 14 7 F) N K T tb fl nx := (hO1.sA 7 F).wo (by decide) hW
      refine kb_6_shorten_15 (kt := fun z => absurd z (by show ¬ am_I τ1 14 1 ≤ _; rw [hI1]; exact nI_ge (by omega) (by omega))) (kf := fun _ => ?_)
      refine kb_6_shorten_23 (hi0 := vk) (hi1 := vk) (hC := by rw [ck, q3, q4]; exact sp_6_addCover W1 (hRok k).1 1) (k := fun r τ' hr => ?_)
      obtain ⟨rfl, F', hτ', hF'⟩ := hr
      refine kb_6_shorten_40 (k := ?_)
      rw [nI_1, hτ', am_sA_sA]
      refine ih (k + 1) (by omega) F' (fun s hs => ?_)
      rw [hF' s hs, am_A_sA, if_pos ⟨rfl, rfl⟩, hF s hs]
      exact nI_binc _ _
  refine kb_6_shorten_13 (k := ?_)
  have := loop1 Rs.length 0 (by omega) (am_A τ1 14 7) (fun s hs => by rw [hτ1, am_A_sA, if_pos ⟨rfl, rfl⟩]; unfold am_fill; rw [if_pos (by omega)]; rfl)
  rw [am_sA_id, nI_0] at this
  exact this
theorem sw_L_ok (hRok : ∀ k, rw_ok (rl_f Rs k) ∧ (rl_f Rs k).length ≤ 16) (j : Nat) : (rl_f (sw_L N K tb fl nx Rs) j).length ≤ 16 := (rl_f_ok (sh_kl_ok (sh_ts_ok hRok _) _) j).2
theorem rl_f_at {L : List (List Nat)} {k : Nat} (h : k < L.length) : L[k]? = some (rl_f L k) := by unfold rl_f; rw [List.getD_eq_getElem?_getD, List.getElem?_eq_getElem h]; rfl
theorem sp_6_entryCount (hk : sh_Ok σ N K tb fl nx Rs) : am_C false ya_6_entryCount d [.ref (am_oid 14)] σ (fun r τ => τ = σ ∧ r = some (.int (nI (rl_sum (sw_L N K tb fl nx Rs))))) := by
  obtain ⟨h200, hI, hR, -⟩ := hk
  have hle : (sw_L N K tb fl nx Rs).length ≤ Rs.length := sh_kl_le
  have loop : ∀ (b a : List (List Nat)), sw_L N K tb fl nx Rs = a ++ b → am_T false ya_6_entryCount d (fun r τ => τ = σ ∧ r = some (.int (nI (rl_sum (sw_L N K tb fl nx Rs))))) 4 [some (.ref (am_oid 14)), some (.int (nI (rl_sum a))), some (.int (nI a.length))] [] σ := by
    intro b
    induction b with
    | nil =>
      intro a hab
      rw [List.append_nil] at hab
      refine kb_6_entryCount_4 (kt := fun _ => kb_6_entryCount_27 ⟨rfl, by rw [hab]⟩) (kf := fun z => absurd (by rw [hI, hab]; exact nI_le (Nat.le_refl _) (by rw [hab] at hle; omega)) z)
    | cons c b ih =>
      intro a hab
      have hl : a.length < (sw_L N K tb fl nx Rs).length := by rw [hab]; simp
      have e : rl_f (sw_L N K tb fl nx Rs) a.length = c := by rw [hab]; exact rl_f_mid _ _ _
      have q1 := (hR a.length hl).1
      rw [e] at q1
      refine kb_6_entryCount_4 (kt := fun z => absurd z (by rw [hI]; exact nI_ge hl (by omega))) (kf := fun _ => ?_)
      refine kb_6_entryCount_12 (hi0 := vp_in_nI (by omega) (by omega)) (k := ?_)
      rw [nI_clamp (by omega), q1, nI_add, nI_1]
      have next := ih (a ++ [c]) (by rw [List.append_assoc]; exact hab)
      rw [rl_sum_app, List.length_append] at next
      exact next
  refine am_enter rfl (by simp [Value.category]) (Nat.le_of_ble_eq_true rfl) (kb_6_entryCount_0 (k := ?_))
  have := loop (sw_L N K tb fl nx Rs) [] rfl
  exact this
theorem sp_6_entry (hk : sh_Ok σ N K tb fl nx Rs) (hRok : ∀ k, rw_ok (rl_f Rs k) ∧ (rl_f Rs k).length ≤ 16) {k i : Nat} (hk31 : k < 2 ^ 31) (hi31 : i < 2 ^ 31) : am_C false ya_6_entry d [.ref (am_oid 14), .int (nI k), .int (nI i)] σ (fun r τ => τ = σ ∧ r = some (.int (rl_at (sw_L N K tb fl nx Rs) k i))) := by
  obtain ⟨h200, hI, hR, -⟩ := hk
  have hle : (sw_L N K tb fl nx Rs).length ≤ Rs.length := sh_kl_le
  refine am_enter rfl (by simp [Value.category]) (Nat.le_of_ble_eq_true rfl) ?_
  refine kb_6_entry_0 (kt := fun z => absurd z (nI_pos hk31)) (kf := fun _ => ?_)
  refine kb_6_entry_4 (kt := fun z => ?_) (kf := fun z => ?_)
  · rw [hI, nI_leI (by omega) hk31] at z
    exact kb_6_entry_26 ⟨rfl, by rw [rl_at_ge z]⟩
  · rw [hI, nI_leI (by omega) hk31] at z
    have hkl : k < (sw_L N K tb fl nx Rs).length := by omega
    have ck : (nI k).toNatClampNeg = k := nI_clamp hk31
    obtain ⟨q1, q2⟩ := hR k hkl
    have hl := sw_L_ok (N := N) (K := K) (tb := tb) (fl := fl) (nx := nx) hRok k
    have e : rl_at (sw_L N K tb fl nx Rs) k i = rl_e (rl_f (sw_L N K tb fl nx Rs) k) i := by unfold rl_at; rw [rl_f_at hkl]
    refine kb_6_entry_12 (kt := fun z => absurd z (nI_pos hi31)) (kf := fun _ => ?_)
    refine kb_6_entry_16 (hi0 := vp_in_nI (by omega) (by omega)) (kt := fun y => ?_) (kf := fun y => ?_)
    · rw [ck, q1, nI_ltI hi31 (by omega)] at y
      refine kb_6_entry_29 (hi0 := by rw [nI_ix16]; exact vp_in_nI (by omega) (by omega)) (hq := ⟨rfl, ?_⟩)
      rw [nI_ix16, nI_clamp (by omega), q2 i y, e]
    · rw [ck, q1, nI_ltI hi31 (by omega)] at y
      exact kb_6_entry_26 ⟨rfl, by rw [e, rl_e_ge (by omega)]⟩
theorem sp_6_heldStates (hW : am_Wo σ N K T tb fl nx) (hk : sh_Ok σ N K tb fl nx Rs) : am_C false ya_6_heldStates d [.ref (am_oid 14)] σ (fun r τ => τ = σ ∧ r = some (.int (nI (sw_n N K tb fl nx Rs)))) := by
  obtain ⟨h200, hI, hR, hC⟩ := hk
  have hH := hC.held h200
  have hN := hW.1
  have w4 := hW.2.2.2.1
  obtain ⟨p, hp⟩ : ∃ p : Nat → Bool, p = fun s => rs_in (sw_R N K tb fl nx Rs) (sw_O N K tb fl nx Rs) Rs.length (tb s) := ⟨_, rfl⟩
  have es : sw_n N K tb fl nx Rs = am_cn p N := by rw [hp]; rfl
  rw [es]
  have loop : ∀ (j i : Nat), i + j = N → am_T false ya_6_heldStates d (fun r τ => τ = σ ∧ r = some (.int (nI (am_cn p N)))) 4 [some (.ref (am_oid 14)), some (.int (nI (am_cn p i))), some (.int (nI i))] [] σ := by
    intro j
    induction j with
    | zero =>
      intro i hi
      have : i = N := by omega
      subst this
      exact kb_6_heldStates_4 (kt := fun _ => kb_6_heldStates_33 ⟨rfl, rfl⟩) (kf := fun z => absurd (by rw [w4]; exact nI_le (by omega) (by omega)) z)
    | succ j ih =>
      intro i hi
      obtain ⟨c, c1, c2, c3⟩ := hH i (by omega)
      have ep : p i = decide (0 < c) := by rw [hp]; exact c3
      have next := ih (i + 1) (by omega)
      rw [← nI_cn, ep] at next
      refine kb_6_heldStates_4 (kt := fun z => absurd z (by rw [w4]; exact nI_ge (by omega) (by omega))) (kf := fun _ => ?_)
      refine kb_6_heldStates_15 (hi0 := vp_in_nI (by omega) (by omega)) (kt := fun z => ?_) (kf := fun z => ?_)
      · rw [nI_clamp (by omega), c2, ← nI_0, nI_leI (by omega) (by omega)] at z
        rw [decide_eq_false (by omega)] at next
        refine kb_6_heldStates_27 (k := ?_)
        rw [nI_1 i]
        have e0' : nI (am_cn p i) + am_bI false = nI (am_cn p i) := Int32.add_zero _
        rw [e0'] at next
        exact next
      · rw [nI_clamp (by omega), c2, ← nI_0, nI_leI (by omega) (by omega)] at z
        rw [decide_eq_true (by omega)] at next
        refine kb_6_heldStates_24 (k := kb_6_heldStates_27 (k := ?_))
        rw [nI_1 i]
        exact next
  refine am_enter rfl (by simp [Value.category]) (Nat.le_of_ble_eq_true rfl) (kb_6_heldStates_0 (k := ?_))
  have := loop N 0 (by omega)
  rw [show am_cn p 0 = 0 from rfl, nI_0] at this
  exact this
end SHS
