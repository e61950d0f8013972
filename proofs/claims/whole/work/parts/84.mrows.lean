/-! THE REFERENCE: takes, drops, laysRows, isInRows, proves -/
def mr_Rw (σ : am_St) (k : Nat) (row : List Nat) : Prop := am_A σ 16 39 k = nI row.length ∧ (∀ i, i < row.length → am_A σ 16 38 (16 * k + i) = rl_e row i) ∧ am_A σ 16 40 k = rw_m rw_g row ∧ am_A σ 16 41 k = rw_m rw_l row
def mr_bit (p : Nat → Bool) (c : Nat) : Int32 := if p c = true then 1 <<< (nI (c % 100) &&& 31) else 0
def mr_cut (p : Nat → Bool) (c : Nat) : Int32 := if p c = true then (1 <<< (nI (c % 100) &&& 31)) ^^^ -1 else -1
theorem rw_m_ins' {p : Nat → Bool} {a b : List Nat} {c : Nat} : rw_m p (a ++ b) ||| mr_bit p c = rw_m p (a ++ c :: b) := rw_m_ins.symm
theorem rw_m_snoc' {p : Nat → Bool} {a : List Nat} {c : Nat} : rw_m p a ||| mr_bit p c = rw_m p (a ++ [c]) := rw_m_snoc.symm
theorem rw_m_cut {p : Nat → Bool} {a b : List Nat} {c : Nat} (ok : rw_ok (a ++ c :: b)) : rw_m p (a ++ c :: b) &&& mr_cut p c = rw_m p (a ++ b) := by
  unfold mr_cut
  by_cases h : p c = true
  · rw [if_pos h]; exact rw_m_del ok
  · rw [if_neg h, i32_and_m1, rw_m_ins, if_neg h, Int32.or_zero]
theorem upd_id (f : Nat → Int32) (k : Nat) : upd f k (f k) = f := by
  funext i
  by_cases c : i = k
  · rw [c, upd_s]
  · rw [upd_n c]
section MRW
variable {d N K T r : Nat} {tb : Nat → Int32} {fl : Nat → Nat → Bool} {nx : Nat → Nat → Option Nat} {R : Nat → List Nat} {out : Nat → Bool} {σ : am_St} {nd : Nat → Nat → Int32} {n : Nat}
def mr_tk (σ : am_St) (k c : Nat) : am_St := am_sA (am_sA σ 16 40 (upd (am_A σ 16 40) k (am_A σ 16 40 k ||| mr_bit rw_g c))) 16 41 (upd (am_A σ 16 41) k (am_A σ 16 41 k ||| mr_bit rw_l c))
def mr_dr (σ : am_St) (k c : Nat) : am_St := am_sA (am_sA σ 16 40 (upd (am_A σ 16 40) k (am_A σ 16 40 k &&& mr_cut rw_g c))) 16 41 (upd (am_A σ 16 41) k (am_A σ 16 41 k &&& mr_cut rw_l c))
theorem sp_11_takes {k c : Nat} (hk : k < 202) (hc : c < 200) : am_C true ya_11_takes d [.ref (am_oid 16), .int (nI k), .int (nI c)] σ (fun r τ => r = none ∧ τ = mr_tk σ k c) := by
  have vk : vp_in (nI k) 202 := vp_in_nI hk (by omega)
  have ck : (nI k).toNatClampNeg = k := nI_clamp (by omega)
  refine am_enter rfl (by simp [Value.category]) (Nat.le_of_ble_eq_true rfl) ?_
  by_cases h : c < 100
  · have g0 : rw_g c = false := by unfold rw_g; rw [decide_eq_false (by omega)]
    have l1 : rw_l c = true := by unfold rw_l; rw [decide_eq_true h]
    refine kb_11_takes_0 (kt := fun _ => kb_11_takes_24 (hi0 := vk) (hi1 := vk) (k := kb_11_takes_36 (hq := ⟨rfl, ?_⟩))) (kf := fun z => absurd (by rw [nI_100]; exact nI_lt h (by omega)) z)
    unfold mr_tk mr_bit
    rw [g0, l1, if_pos rfl, if_neg (by decide), Int32.or_zero, upd_id, am_sA_id, ck, Nat.mod_eq_of_lt h]
  · have g0 : rw_g c = true := by unfold rw_g; rw [decide_eq_true (by omega)]
    have l1 : rw_l c = false := by unfold rw_l; rw [decide_eq_false h]
    refine kb_11_takes_0 (kt := fun z => absurd z (by rw [nI_100]; exact nI_nlt (by omega) (by omega))) (kf := fun _ => kb_11_takes_6 (hi0 := vk) (hi1 := vk) (k := kb_11_takes_36 (hq := ⟨rfl, ?_⟩)))
    unfold mr_tk mr_bit
    rw [g0, l1, if_pos rfl, if_neg (by decide), Int32.or_zero, upd_id, ck, nI_100, nI_sub (by omega), show c % 100 = c - 100 by omega]
    have e : am_A σ 16 41 = am_A (am_sA σ 16 40 (upd (am_A σ 16 40) k (am_A σ 16 40 k ||| 1 <<< (nI (c - 100) &&& 31)))) 16 41 := by rw [am_A_sA, if_neg (by simp)]
    rw [e, am_sA_id]
theorem sp_11_drops {k c : Nat} (hk : k < 202) (hc : c < 200) : am_C true ya_11_drops d [.ref (am_oid 16), .int (nI k), .int (nI c)] σ (fun r τ => r = none ∧ τ = mr_dr σ k c) := by
  have vk : vp_in (nI k) 202 := vp_in_nI hk (by omega)
  have ck : (nI k).toNatClampNeg = k := nI_clamp (by omega)
  refine am_enter rfl (by simp [Value.category]) (Nat.le_of_ble_eq_true rfl) ?_
  by_cases h : c < 100
  · have g0 : rw_g c = false := by unfold rw_g; rw [decide_eq_false (by omega)]
    have l1 : rw_l c = true := by unfold rw_l; rw [decide_eq_true h]
    refine kb_11_drops_0 (kt := fun _ => kb_11_drops_26 (hi0 := vk) (hi1 := vk) (k := kb_11_drops_40 (hq := ⟨rfl, ?_⟩))) (kf := fun z => absurd (by rw [nI_100]; exact nI_lt h (by omega)) z)
    unfold mr_dr mr_cut
    rw [g0, l1, if_pos rfl, if_neg (by decide), i32_and_m1, upd_id, am_sA_id, ck, Nat.mod_eq_of_lt h]
  · have g0 : rw_g c = true := by unfold rw_g; rw [decide_eq_true (by omega)]
    have l1 : rw_l c = false := by unfold rw_l; rw [decide_eq_false h]
    refine kb_11_drops_0 (kt := fun z => absurd z (by rw [nI_100]; exact nI_nlt (by omega) (by omega))) (kf := fun _ => kb_11_drops_6 (hi0 := vk) (hi1 := vk) (k := kb_11_drops_40 (hq := ⟨rfl, ?_⟩)))
    unfold mr_dr mr_cut
    rw [g0, l1, if_pos rfl, if_neg (by decide), i32_and_m1, upd_id, ck, nI_100, nI_sub (by omega), show c % 100 = c - 100 by omega]
    have e : am_A σ 16 41 = am_A (am_sA σ 16 40 (upd (am_A σ 16 40) k (am_A σ 16 40 k &&& (1 <<< (nI (c - 100) &&& 31) ^^^ -1)))) 16 41 := by rw [am_A_sA, if_neg (by simp)]
    rw [e, am_sA_id]
theorem mr_tk_A {k c : Nat} : am_A (mr_tk σ k c) 16 40 = upd (am_A σ 16 40) k (am_A σ 16 40 k ||| mr_bit rw_g c) ∧ am_A (mr_tk σ k c) 16 41 = upd (am_A σ 16 41) k (am_A σ 16 41 k ||| mr_bit rw_l c) ∧ ∀ q, q ≠ 40 → q ≠ 41 → am_A (mr_tk σ k c) 16 q = am_A σ 16 q := by
  unfold mr_tk
  refine ⟨by rw [am_A_sA, if_neg (by simp), am_A_sA, if_pos ⟨rfl, rfl⟩], by rw [am_A_sA, if_pos ⟨rfl, rfl⟩], fun q h1 h2 => by rw [am_A_sA, if_neg (fun z => h2 z.1), am_A_sA, if_neg (fun z => h1 z.1)]⟩
theorem mr_dr_A {k c : Nat} : am_A (mr_dr σ k c) 16 40 = upd (am_A σ 16 40) k (am_A σ 16 40 k &&& mr_cut rw_g c) ∧ am_A (mr_dr σ k c) 16 41 = upd (am_A σ 16 41) k (am_A σ 16 41 k &&& mr_cut rw_l c) ∧ ∀ q, q ≠ 40 → q ≠ 41 → am_A (mr_dr σ k c) 16 q = am_A σ 16 q := by
  unfold mr_dr
  refine ⟨by rw [am_A_sA, if_neg (by simp), am_A_sA, if_pos ⟨rfl, rfl⟩], by rw [am_A_sA, if_pos ⟨rfl, rfl⟩], fun q h1 h2 => by rw [am_A_sA, if_neg (fun z => h2 z.1), am_A_sA, if_neg (fun z => h1 z.1)]⟩
/-- a leaf's row -/
abbrev mr_LF := mo_Fr [42] [38, 39, 40, 41, 43]
def mr_LQ (σ : am_St) (p : List Nat) (r0 : Nat) (rows : List (List Nat)) : Option Value → am_St → Prop := fun r τ => r = none ∧ mr_LF σ τ ∧ am_I τ 16 42 = nI (r0 + rows.length) ∧ (∀ k row, k < r0 → row.length ≤ 16 → mr_Rw σ k row → mr_Rw τ k row) ∧ (∀ k, k < rows.length → mr_Rw τ (r0 + k) (rl_f rows k)) ∧ ∀ z, z < p.length → am_A τ 16 43 z = rl_e p z
theorem sp_11_laysRows {d : Nat} : ∀ (f : Nat) (p : List Nat) (par : Int32) (i e r0 : Nat) (σ : am_St), tr_sb nd f p par i e → e ≤ n → mo_Nd (am_A σ 16 25) n nd → rw_ok p → p.length + f ≤ 17 → (∀ z, z < p.length → am_A σ 16 43 z = rl_e p z) → am_I σ 16 42 = nI r0 → r0 + (tr_rw nd f p i).length ≤ 200 → am_C true ya_11_laysRows (d + f) [.ref (am_oid 16), .int (nI i)] σ (mr_LQ σ p r0 (tr_rw nd f p i)) := by
  intro f
  induction f with
  | zero => intro p par i e r0 σ h; exact absurd h id
  | succ f ih =>
    intro p par i e r0 σ h he hn hok hlen hpath hr hr2
    have hlt := h.lt
    have hn4 := hn.1
    obtain ⟨h1, h2, h⟩ := h
    have eN : ∀ (σ' : am_St) (g : Nat), g < 6 → mo_Nd (am_A σ' 16 25) n nd → am_C true ya_11_nodeAt (d + f) [.ref (am_oid 16), .int (nI i), .int (nI g)] σ' (fun r τ => τ = σ' ∧ r = some (.int (nd i g))) := fun σ' g hg hn' => sp_11_nodeAt hn' (show i < n by omega) hg
    generalize hQ : mr_LQ σ p r0 (tr_rw nd (f + 1) p i) = Q
    refine am_enter rfl (by simp [Value.category]) (Nat.le_of_ble_eq_true rfl) ?_
    refine kb_11_laysRows_0 (hC := eN σ 5 (by decide) hn) (k := fun r τ hr' => ?_)
    obtain ⟨rfl, rfl⟩ := hr'
    rw [h1]
    refine kb_11_laysRows_6 (hC := eN _ 0 (by decide) hn) (k := fun r τ hr' => ?_)
    obtain ⟨hτ, rfl⟩ := hr'
    subst hτ
    rcases h with ⟨h3, h4⟩ | ⟨h3, t, m, h4, h5, h6, h7, h8, h9, h10⟩
    · have hk2 : ¬ nd i 0 = 2 := by rcases h3 with z | z <;> rw [z] <;> decide
      have er : tr_rw nd (f + 1) p i = if nd i 0 = 1 then [p] else [] := by unfold tr_rw; rw [if_neg hk2]
      refine kb_11_laysRows_13 (kt := fun _ => ?_) (kf := fun z => absurd z hk2)
      refine kb_11_laysRows_65 (hC := eN _ 0 (by decide) hn) (k := fun r τ' hr' => ?_)
      obtain ⟨hτ, rfl⟩ := hr'
      subst hτ
      rcases h3 with h3 | h3
      · rw [h3, if_neg (by decide)] at er
        refine kb_11_laysRows_71 (kt := fun z => absurd h3 z) (kf := fun _ => kb_11_laysRows_74 (hq := ?_))
        rw [← hQ, er]
        exact ⟨rfl, mo_Fr.rf, hr, fun _ _ _ _ h => h, fun k hk => absurd hk (Nat.not_lt_zero k), hpath⟩
      · rw [h3, if_pos rfl] at er
        rw [er] at hr2 hQ
        have hr200 : r0 < 200 := by have : ([p] : List (List Nat)).length = 1 := rfl; omega
        have v : vp_in (am_I τ' 16 42) 202 := by rw [hr]; exact vp_in_nI (by omega) (by omega)
        refine kb_11_laysRows_71 (kt := fun _ => ?_) (kf := fun z => absurd z (by rw [h3]; decide))
        refine kb_11_laysRows_75 (hi0 := v) (hi1 := v) (hi2 := v) (k := ?_)
        rw [hr, nI_clamp (show r0 < 2 ^ 31 by omega)]
        obtain ⟨υ, hυ⟩ : ∃ υ, υ = am_sA (am_sA (am_sA τ' 16 39 (upd (am_A τ' 16 39) r0 (nI p.length))) 16 40 (upd (am_A τ' 16 40) r0 0)) 16 41 (upd (am_A τ' 16 41) r0 0) := ⟨_, rfl⟩
        rw [← hυ]
        have uF : mr_LF τ' υ := by rw [hυ]; exact ((mo_Fr.rf.sA (by rfl) _).sA (by rfl) _).sA (by rfl) _
        have u39 : am_A υ 16 39 = upd (am_A τ' 16 39) r0 (nI p.length) := by rw [hυ, am_A_sA, if_neg (by simp), am_A_sA, if_neg (by simp), am_A_sA, if_pos ⟨rfl, rfl⟩]
        have u40 : am_A υ 16 40 = upd (am_A τ' 16 40) r0 0 := by rw [hυ, am_A_sA, if_neg (by simp), am_A_sA, if_pos ⟨rfl, rfl⟩]
        have u41 : am_A υ 16 41 = upd (am_A τ' 16 41) r0 0 := by rw [hυ, am_A_sA, if_pos ⟨rfl, rfl⟩]
        have u38 : am_A υ 16 38 = am_A τ' 16 38 := by rw [hυ, am_A_sA, if_neg (by simp), am_A_sA, if_neg (by simp), am_A_sA, if_neg (by simp)]
        have u43 : am_A υ 16 43 = am_A τ' 16 43 := by rw [hυ, am_A_sA, if_neg (by simp), am_A_sA, if_neg (by simp), am_A_sA, if_neg (by simp)]
        have uI : am_I υ 16 42 = nI r0 := by rw [hυ]; exact hr
        have loop : ∀ (b a : List Nat), p = a ++ b → ∀ τ : am_St, mr_LF τ' τ → am_I τ 16 42 = nI r0 → am_A τ 16 43 = am_A τ' 16 43 → am_A τ 16 39 = upd (am_A τ' 16 39) r0 (nI p.length) → (∀ z, z < a.length → am_A τ 16 38 (16 * r0 + z) = rl_e p z) → (∀ z, z < 16 * r0 → am_A τ 16 38 z = am_A τ' 16 38 z) → (∀ k, k < r0 → am_A τ 16 40 k = am_A τ' 16 40 k ∧ am_A τ 16 41 k = am_A τ' 16 41 k) → am_A τ 16 40 r0 = rw_m rw_g a → am_A τ 16 41 r0 = rw_m rw_l a → am_T true ya_11_laysRows (d + (f + 1)) Q 107 [some (.ref (am_oid 16)), some (.int (nI i)), some (.int (nI p.length)), some (.int (nI a.length))] [] τ := by
          intro b
          induction b with
          | nil =>
            intro a hab τ D1 D2 D3 D4 D5 D6 D7 D8 D9
            rw [List.append_nil] at hab
            subst hab
            refine kb_11_laysRows_107 (kt := fun _ => kb_11_laysRows_152 (hq := ?_)) (kf := fun z => absurd (nI_le (Nat.le_refl _) (by omega)) z)
            rw [← hQ, D2, nI_1]
            refine ⟨rfl, D1.sI (by rfl) _, by rw [am_I_sI, if_pos ⟨rfl, rfl⟩]; rfl, fun k row hk hrow hRw => ⟨?_, fun z hz => ?_, ?_, ?_⟩, fun k hk => ?_, fun z hz => ?_⟩
            · show am_A τ 16 39 k = _
              rw [D4, upd_n (by omega)]; exact hRw.1
            · show am_A τ 16 38 _ = _
              rw [D6 _ (by omega)]; exact hRw.2.1 z hz
            · show am_A τ 16 40 k = _
              rw [(D7 k hk).1]; exact hRw.2.2.1
            · show am_A τ 16 41 k = _
              rw [(D7 k hk).2]; exact hRw.2.2.2
            · have : k = 0 := by have : ([p] : List (List Nat)).length = 1 := rfl; omega
              subst this
              refine ⟨?_, fun z hz => ?_, ?_, ?_⟩
              · show am_A τ 16 39 r0 = _
                rw [D4, upd_s]; rfl
              · exact D5 z hz
              · exact D8
              · exact D9
            · show am_A τ 16 43 z = _
              rw [D3]; exact hpath z hz
          | cons c b ihb =>
            intro a hab τ D1 D2 D3 D4 D5 D6 D7 D8 D9
            have hl : a.length < p.length := by rw [hab]; simp
            have hcm : c ∈ p := by rw [hab]; exact List.mem_append_right _ List.mem_cons_self
            obtain ⟨hc16, hc200⟩ := hok.1 c hcm
            have eE : rl_e p a.length = nI c := by rw [hab]; exact rl_e_mid _ _ _
            have va : vp_in (nI a.length) 17 := vp_in_nI (by omega) (by omega)
            have eP : am_A τ 16 43 (nI a.length).toNatClampNeg = nI c := by rw [nI_clamp (by omega), D3, hpath _ hl, eE]
            have ix : (16 : Int32) * am_I τ 16 42 + nI a.length = nI (16 * r0 + a.length) := by rw [D2, show (16 : Int32) = nI 16 from rfl, nI_mul, nI_add]
            refine kb_11_laysRows_107 (kt := fun z => absurd z (nI_ge hl (by omega))) (kf := fun _ => ?_)
            refine kb_11_laysRows_112 (hi0 := va) (hi1 := by rw [ix]; exact vp_in_nI (by omega) (by omega)) (hi2 := va) (hC := by rw [D2, eP]; exact sp_11_takes (show r0 < 202 by omega) hc200) (k := fun r τ1 hr' => ?_)
            obtain ⟨rfl, hτ1⟩ := hr'
            rw [← D2, ix, nI_clamp (show 16 * r0 + a.length < 2 ^ 31 by omega)] at hτ1
            obtain ⟨ω, hω⟩ : ∃ ω, ω = am_sA τ 16 38 (upd (am_A τ 16 38) (16 * r0 + a.length) (nI c)) := ⟨_, rfl⟩
            rw [← hω] at hτ1
            obtain ⟨t1, t2, t3⟩ := mr_tk_A (σ := ω) (k := r0) (c := c)
            rw [← hτ1] at t1 t2 t3
            have ω38 : am_A ω 16 38 = upd (am_A τ 16 38) (16 * r0 + a.length) (nI c) := by rw [hω, am_A_sA, if_pos ⟨rfl, rfl⟩]
            have ωn : ∀ q, q ≠ 38 → am_A ω 16 q = am_A τ 16 q := fun q hq => by rw [hω, am_A_sA, if_neg (fun z => hq z.1)]
            have las : (a ++ [c]).length = a.length + 1 := by simp
            refine kb_11_laysRows_146 (k := ?_)
            rw [nI_1, ← las]
            refine ihb (a ++ [c]) (by rw [List.append_assoc]; exact hab) τ1 ?_ (by rw [hτ1, hω]; exact D2) (by rw [t3 43 (by decide) (by decide), ωn 43 (by decide)]; exact D3) (by rw [t3 39 (by decide) (by decide), ωn 39 (by decide)]; exact D4) (fun z hz => ?_) (fun z hz => ?_) (fun k hk => ?_) ?_ ?_
            · rw [hτ1, hω]; unfold mr_tk; exact ((D1.sA (by rfl) _).sA (by rfl) _).sA (by rfl) _
            · rw [t3 38 (by decide) (by decide), ω38]
              by_cases c2 : z = a.length
              · rw [c2, upd_s, eE]
              · rw [upd_n (by omega)]; exact D5 z (by rw [las] at hz; omega)
            · rw [t3 38 (by decide) (by decide), ω38, upd_n (by omega)]; exact D6 z hz
            · rw [t1, t2, upd_n (by omega), upd_n (by omega), ωn 40 (by decide), ωn 41 (by decide)]; exact D7 k hk
            · rw [t1, upd_s, ωn 40 (by decide), D8, rw_m_snoc']
            · rw [t2, upd_s, ωn 41 (by decide), D9, rw_m_snoc']
        have := loop p [] rfl υ uF uI u43 u39 (fun z hz => absurd hz (Nat.not_lt_zero z)) (fun z _ => by rw [u38]) (fun k hk => by rw [u40, u41, upd_n (by omega), upd_n (by omega)]; exact ⟨rfl, rfl⟩) (by rw [u40, upd_s]; rfl) (by rw [u41, upd_s]; rfl)
        rw [show ([] : List Nat).length = 0 from rfl, nI_0] at this
        exact this
    · have l1 := h9.lt
      have l2 := h10.lt
      have ok1 : rw_ok (p ++ [100 + t]) := rw_ok_snoc hok (show (100 + t) % 100 = t by omega) h4 (by omega) h8
      have ok2 : rw_ok (p ++ [t]) := rw_ok_snoc hok (show t % 100 = t by omega) h4 (by omega) h8
      have er : tr_rw nd (f + 1) p i = tr_rw nd f (p ++ [100 + t]) (i + 1) ++ tr_rw nd f (p ++ [t]) m := by
        show (if nd i 0 = 2 then _ else _) = _
        rw [if_pos h3, h5, h6, h7, nI_clamp (by omega), nI_clamp (by omega), nI_clamp (by omega)]
      have hr2' := hr2
      rw [er, List.length_append] at hr2'
      have f1 : 1 ≤ f := by
        cases f with
        | zero => exact absurd h9 id
        | succ f => omega
      have vp : vp_in (nI p.length) 17 := vp_in_nI (by omega) (by omega)
      have cp : (nI p.length).toNatClampNeg = p.length := nI_clamp (by omega)
      refine kb_11_laysRows_13 (kt := fun z => absurd h3 z) (kf := fun _ => ?_)
      refine kb_11_laysRows_17 (hC := eN _ 1 (by decide) hn) (k := fun r τ' hr' => ?_)
      obtain ⟨hτ, rfl⟩ := hr'
      subst hτ
      rw [h5]
      have e100 : (100 : Int32) + nI t = nI (100 + t) := nI_add 100 t
      refine kb_11_laysRows_30 (hi0 := vp) (hC := by rw [cp]; exact eN _ 2 (by decide) (by rw [am_A_sA, if_neg (by simp)]; exact hn)) (k := fun r τ1 hr' => ?_)
      obtain ⟨hτ1, rfl⟩ := hr'
      rw [e100] at hτ1
      rw [h6]
      have F1 : mr_LF τ' τ1 := by rw [hτ1]; exact mo_Fr.rf.sA (by rfl) _
      have n1 : mo_Nd (am_A τ1 16 25) n nd := by rw [F1.2.1 25 rfl]; exact hn
      have p43 : am_A τ1 16 43 = upd (am_A τ' 16 43) p.length (nI (100 + t)) := by rw [hτ1, am_A_sA, if_pos ⟨rfl, rfl⟩]
      have q1 : ∀ q, q ≠ 43 → am_A τ1 16 q = am_A τ' 16 q := fun q hq => by rw [hτ1, am_A_sA, if_neg (fun z => hq z.1)]
      have las : ∀ c : Nat, (p ++ [c]).length = p.length + 1 := fun c => by simp
      have pth : ∀ (A : Nat → Int32) (c : Nat), (∀ z, z < p.length → A z = rl_e p z) → ∀ z, z < (p ++ [c]).length → upd A p.length (nI c) z = rl_e (p ++ [c]) z := fun A c hA z hz => by
        rw [las] at hz
        by_cases c2 : z = p.length
        · rw [c2, upd_s, rl_e_mid]
        · rw [upd_n c2, rl_e_app (by omega)]; exact hA z (by omega)
      refine kb_11_laysRows_39 (hC := ih (p ++ [100 + t]) (nI i) (i + 1) m r0 τ1 h9 (by omega) n1 ok1 (by rw [las]; omega) (by rw [p43]; exact pth _ _ hpath) (by rw [hτ1]; exact hr) (by omega)) (k := fun r τ2 hr' => ?_)
      obtain ⟨rfl, F2, I2, A2, B2, P2⟩ := hr'
      have n2 : mo_Nd (am_A τ2 16 25) n nd := by rw [F2.2.1 25 rfl]; exact n1
      refine kb_11_laysRows_42 (hC := eN _ 1 (by decide) n2) (k := fun r τ3 hr' => ?_)
      obtain ⟨hτ3, rfl⟩ := hr'
      subst hτ3
      rw [h5]
      refine kb_11_laysRows_53 (hi0 := vp) (hC := by rw [cp]; exact eN _ 3 (by decide) (by rw [am_A_sA, if_neg (by simp)]; exact n2)) (k := fun r τ4 hr' => ?_)
      obtain ⟨hτ4, rfl⟩ := hr'
      rw [h7]
      have F4 : mr_LF τ3 τ4 := by rw [hτ4]; exact mo_Fr.rf.sA (by rfl) _
      have n4 : mo_Nd (am_A τ4 16 25) n nd := by rw [F4.2.1 25 rfl]; exact n2
      have p434 : am_A τ4 16 43 = upd (am_A τ3 16 43) p.length (nI t) := by rw [hτ4, am_A_sA, if_pos ⟨rfl, rfl⟩]
      have q4 : ∀ q, q ≠ 43 → am_A τ4 16 q = am_A τ3 16 q := fun q hq => by rw [hτ4, am_A_sA, if_neg (fun z => hq z.1)]
      have P3 : ∀ z, z < p.length → am_A τ3 16 43 z = rl_e p z := fun z hz => by rw [P2 z (by rw [las]; omega), rl_e_app hz]
      refine kb_11_laysRows_61 (hC := ih (p ++ [t]) (nI i) m e (r0 + (tr_rw nd f (p ++ [100 + t]) (i + 1)).length) τ4 h10 he n4 ok2 (by rw [las]; omega) (by rw [p434]; exact pth _ _ P3) (by rw [hτ4]; exact I2) (by omega)) (k := fun r τ5 hr' => ?_)
      obtain ⟨rfl, F5, I5, A5, B5, P5⟩ := hr'
      refine kb_11_laysRows_64 (hq := ?_)
      have rwq : ∀ {a b : am_St} {k : Nat} {row : List Nat}, (∀ q, q ≠ 43 → am_A b 16 q = am_A a 16 q) → mr_Rw a k row → mr_Rw b k row := fun {a b k row} hq h => by
        unfold mr_Rw at h ⊢
        rw [hq 39 (by decide), hq 38 (by decide), hq 40 (by decide), hq 41 (by decide)]; exact h
      have hlen1 : ∀ k, (rl_f (tr_rw nd f (p ++ [100 + t]) (i + 1)) k).length ≤ 16 := fun k => by
        obtain ⟨-, pt, -, s2, s3⟩ := tr_sb_pt f (p ++ [100 + t]) (nI i) (i + 1) m h9 (by omega) ok1 (by rw [las]; omega)
        rw [← s3]; exact (rl_f_ok (tr_rl_ok s2 _ (by omega)) k).2
      rw [← hQ, er]
      refine ⟨rfl, ((F1.tr F2).tr F4).tr F5, by rw [I5, List.length_append, Nat.add_assoc], fun k row hk hrow hRw => ?_, fun k hk => ?_, fun z hz => ?_⟩
      · exact A5 k row (by omega) hrow (rwq q4 (A2 k row hk hrow (rwq q1 hRw)))
      · rw [List.length_append] at hk
        by_cases c : k < (tr_rw nd f (p ++ [100 + t]) (i + 1)).length
        · rw [rl_f_app c]
          exact A5 _ _ (by omega) (hlen1 k) (rwq q4 (B2 k c))
        · have := B5 (k - (tr_rw nd f (p ++ [100 + t]) (i + 1)).length) (by omega)
          have e1 : r0 + (tr_rw nd f (p ++ [100 + t]) (i + 1)).length + (k - (tr_rw nd f (p ++ [100 + t]) (i + 1)).length) = r0 + k := by omega
          rw [e1] at this
          have e2 : rl_f (tr_rw nd f (p ++ [100 + t]) (i + 1) ++ tr_rw nd f (p ++ [t]) m) k = rl_f (tr_rw nd f (p ++ [t]) m) (k - (tr_rw nd f (p ++ [100 + t]) (i + 1)).length) := by
            unfold rl_f
            rw [List.getD_eq_getElem?_getD, List.getD_eq_getElem?_getD, List.getElem?_append_right (by omega)]
          rw [e2]; exact this
      · rw [P5 z (by rw [las]; omega), rl_e_app hz]
end MRW
