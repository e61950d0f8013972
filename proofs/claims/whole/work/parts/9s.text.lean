/-! the class reads a text -/
section TKB
variable {tc : Nat → Nat} {n : Nat}
theorem tk_k_lt256 (c : Nat) : tk_k c < 256 := by
  by_cases h1 : tk_k c = 1
  · omega
  · by_cases h2 : tk_k c = 2
    · omega
    · exact (tk_k_o h1 h2).2.2.2.2.2
theorem tk_at1_B {b : Nat} (hb : b ≤ 900) : (tk_at1 tc n b).1 < 256 ∧ (tk_at1 tc n b).2.1 ≤ 900 ∧ (tk_at1 tc n b).2.2.2 < 387420489 := by
  unfold tk_at1
  split
  · refine ⟨?_, hb, ?_⟩
    · show (if tk_e tc tk_lt n b - b ≤ 6 then 1 else 3) < 256
      split <;> decide
    · refine tk_w_6 (Nat.min_le_left _ _) (fun i hi => ?_)
      have := Nat.min_le_right 6 (tk_e tc tk_lt n b - b)
      exact (tk_rn_ge (n - b) b).2.2 (b + i) (by omega) (by show b + i < tk_e tc tk_lt n b; omega)
  · split
    · exact ⟨by show 2 < 256; decide, hb, Nat.lt_of_le_of_lt (tk_d_le b _) (by decide)⟩
    · exact ⟨tk_k_lt256 _, hb, by show 0 < 387420489; decide⟩
theorem tk_at_B {a : Nat} (hn : n ≤ 900) : (tk_at tc n a).1 < 256 ∧ (tk_at tc n a).2.1 ≤ 900 ∧ (tk_at tc n a).2.2.2 < 387420489 := by
  unfold tk_at
  split
  · exact tk_at1_B (by omega)
  · exact ⟨by show 0 < 256; decide, hn, by show 0 < 387420489; decide⟩
theorem tk_s_B (hn : n ≤ 900) : tk_B (tk_s tc n) := by
  intro t
  cases t with
  | zero => exact tk_at_B hn
  | succ t => exact tk_at_B hn
end TKB
/-- all of a text -/
def pl_all (tc : Nat → Nat) (n : Nat) : pa_F ⊕ (Nat × pa_Q) := pl_tx (tk_s tc n) (n + 1) 0 pa_0 0
section CTEXT
variable {d n : Nat} {tc : Nat → Nat} {σ : am_St}
def rd_E (res : pa_F ⊕ (Nat × pa_Q)) (v : Int32) (τ : am_St) : Prop := match res with
  | .inl e => am_I τ 2 10 = nI e.1 ∧ am_I τ 2 11 = nI e.2
  | .inr x => v = nI x.1 ∧ am_I τ 2 10 = 0 ∧ am_I τ 2 11 = -1 ∧ cq_P τ x.2
theorem sp_4_read (hn : n ≤ 900) (hc : ∀ i, tc i < 256) (hp : ∀ i, i < n → am_A σ 0 0 i &&& 255 = nI (tc i)) : am_C false ya_4_read (d + 6) [.ref (am_oid 2), .ref (am_aid 0 0), .int (nI n)] σ (fun r τ => fr_L σ τ ∧ ∃ v, r = some (.int v) ∧ rd_E (pl_all tc n) v τ) := by
  have hB := tk_s_B (tc := tc) hn
  refine am_enter rfl (by simp [Value.category]) (Nat.le_of_ble_eq_true rfl) ?_
  have O0 : am_On 2 σ (am_sI (am_sI σ 2 10 0) 2 11 (-1)) := (am_On.rf.sI _ _).sI _ _
  refine kb_4_read_0 (hC := sp_2_clear) (k := fun r τ1 hr => ?_)
  obtain ⟨rfl, F1, hq1⟩ := hr
  have L1 : fr_L σ τ1 := O0.L2.tr F1.L1
  have t10 : am_I τ1 2 10 = 0 := (F1.1 2 10 (by decide)).trans (by simp [am_I_sI])
  have t11 : am_I τ1 2 11 = -1 := (F1.1 2 11 (by decide)).trans (by simp [am_I_sI])
  refine kb_4_read_17 (hC := sp_7_cut hn hc (fun i hi => by rw [(L1 0 (by decide) (by decide) (by decide)).2.1]; exact hp i hi)) (k := fun r τ2 hr => ?_)
  obtain ⟨rfl, F2, m, ⟨m0, m1, m2, m3, m4, m5⟩, m6⟩ := hr
  have hT2 : rd_T τ2 (tk_s tc n) m 0 (fun _ => 0) := ⟨by omega, m0, by rw [m4], fun t _ => hB t, fun t ht => ⟨(m5 t ht).1, (m5 t ht).2.1, (m5 t ht).2.2, by
    rw [m6 t ht]
    have : pa_v 0 (fun _ => 0) (tk_s tc n t) = none := by unfold pa_v; split <;> rfl
    rw [this]; rfl⟩, by decide⟩
  have O3 : am_On 2 τ2 (am_sI τ2 2 2 (-1)) := am_On.rf.sI _ _
  refine kb_4_read_26 (hC := sp_4_adv (j := 0) (hT2.on O3) (Nat.zero_le _) (by rw [am_I_sI, if_pos ⟨rfl, rfl⟩]; decide) (by rw [am_I_sI, if_neg (by simp)]; exact (F2.1 2 10 (by decide)).trans t10) (by rw [am_I_sI, if_neg (by simp)]; exact (F2.1 2 11 (by decide)).trans t11)) (k := fun r τ3 hr => ?_)
  obtain ⟨rfl, F3, hR3⟩ := hr
  have hq3 : cq_P τ3 pa_0 := ((hq1.cg (fun k => F2.1 1 k (by decide)) (fun k => F2.2.1 1 k (by decide))).on O3).on F3.1
  have L3 : fr_L σ τ3 := ((L1.tr F2.L3).tr O3.L2).tr F3.1.L2
  have loop : ∀ (f i : Nat) (q : pa_Q) (l : Nat) (τ : am_St), m ≤ i + f → l ≤ i → fr_L σ τ → rd_Aq τ (tk_s tc n) m q i → cq_P τ q → pq_ok q → am_T false ya_4_read (d + 6) (fun r τ => fr_L σ τ ∧ ∃ v, r = some (.int v) ∧ rd_E (pl_tx (tk_s tc n) f i q l) v τ) 37 [some (.ref (am_oid 2)), some (.ref (am_aid 0 0)), some (.int (nI n)), some (.int (nI l))] [] τ := by
    intro f
    induction f with
    | zero =>
      intro i q l τ hf hl L hR hq hk
      have hi := hR.2.1.1
      have : i = m := by omega
      subst this
      refine kb_4_read_37 (kf := fun z => absurd (by rw [hR.2.1.2.2.1, m4]; rfl) z) (kt := fun _ => kb_4_read_75 ⟨L, _, rfl, rfl, hR.2.1.2.2.2.2.2.1, hR.2.1.2.2.2.2.2.2, hq⟩)
    | succ f ih =>
      intro i q l τ hf hl L hR hq hk
      have hi := hR.2.1.1
      have k0 := hR.k0 (x := 0) (by decide)
      by_cases c0 : (tk_s tc n i).1 = 0
      · have e : pl_tx (tk_s tc n) (f + 1) i q l = .inr (l, q) := by unfold pl_tx; rw [if_pos c0]
        rw [e]
        exact kb_4_read_37 (kf := fun z => absurd (k0.mpr c0) z) (kt := fun _ => kb_4_read_75 ⟨L, _, rfl, rfl, hR.2.1.2.2.2.2.2.1, hR.2.1.2.2.2.2.2.2, hq⟩)
      · have him : i ≠ m := fun z => c0 (by rw [z, m4])
        have e : pl_tx (tk_s tc n) (f + 1) i q l = match pl_ln (tk_s tc n) q i with
          | .inl e => .inl e
          | .inr x => pl_tx (tk_s tc n) f x.1 x.2 (l + 1) := by show (if (tk_s tc n i).1 = 0 then _ else _) = _; rw [if_neg c0]; rfl
        refine kb_4_read_37 (kt := fun z => absurd (k0.mp z) c0) (kf := fun _ => ?_)
        refine kb_4_read_44 (kt := fun z => absurd z (by rw [show (900 : Int32) = nI 900 from rfl]; exact nI_ge (by omega) (by omega))) (kf := fun _ => ?_)
        refine kb_4_read_51 (hC := sp_4_readLine hR hq hk) (k := fun r υ hr => ?_)
        obtain ⟨L2, hr⟩ := hr
        cases ex : pl_line (tk_s tc n) q i with
        | inl e' =>
          have el : pl_ln (tk_s tc n) q i = .inl e' := by unfold pl_ln; rw [ex]
          rw [el] at e
          rw [ex] at hr
          obtain ⟨rfl, a, b⟩ := hr
          rw [e]
          exact kb_4_read_55 (kf := fun z => absurd rfl z) (kt := fun _ => kb_4_read_67 ⟨L.tr L2, _, rfl, a, b⟩)
        | inr x =>
          rw [ex] at hr
          obtain ⟨rfl, hT, hK, hqx⟩ := hr
          have hkx := pl_line_ok hB hk ex
          refine kb_4_read_55 (kt := fun z => absurd z (by decide)) (kf := fun _ => ?_)
          refine kb_4_read_58 (hC := sp_4_expect (c := 59) hT hK (by decide) (by decide)) (k := fun r ω hr => ?_)
          obtain ⟨F4, hr⟩ := hr
          by_cases c59 : (tk_s tc n x.1).1 = 59
          · have el : pl_ln (tk_s tc n) q i = .inr (x.1 + 1, x.2) := by unfold pl_ln; rw [ex]; exact if_pos c59
            rw [el] at e
            rw [if_pos c59] at hr
            obtain ⟨rfl, -, hR4⟩ := hr
            rw [e]
            refine kb_4_read_64 (kf := fun z => absurd z (by decide)) (kt := fun _ => kb_4_read_69 (k := ?_))
            rw [nI_1]
            exact ih (x.1 + 1) x.2 (l + 1) ω (by omega) (by omega) ((L.tr L2).tr F4.L2) hR4 (hqx.on F4) hkx.1
          · have el : pl_ln (tk_s tc n) q i = .inl (1, (tk_s tc n x.1).2.1) := by unfold pl_ln; rw [ex]; exact if_neg c59
            rw [el] at e
            rw [if_neg c59] at hr
            obtain ⟨rfl, a, b⟩ := hr
            rw [e]
            exact kb_4_read_64 (kt := fun z => absurd rfl z) (kf := fun _ => kb_4_read_67 ⟨(L.tr L2).tr F4.L2, _, rfl, a, b⟩)
  exact kb_4_read_35 (k := loop (n + 1) 0 pa_0 0 τ3 (by omega) (Nat.le_refl _) L3 hR3 hq3 pq_ok_0)
theorem cq_P.cp {q : pa_Q} (h : cq_P σ q) (hk : pq_ok q) : cp_P σ (pQ_p q) (pQ_N q) := by
  obtain ⟨⟨b0, b1, b2, b3, b4, b6, b7⟩, b8, b9, b10, b11⟩ := h
  obtain ⟨k0, k1, k2, k3, k4, k5, k6⟩ := hk
  obtain ⟨c1, n1, n2, n3, n4⟩ := k0
  have hn3 := c1.1
  refine ⟨⟨c1, n1, n2, n3, n4⟩, ⟨pQ_na q, by omega, fun c hc => ⟨(b10 c hc).1, (b10 c hc).2, k2 c hc⟩, fun a ha => ⟨(b8.2 a ha).1, k3 a ha, (b8.2 a ha).2⟩, fun k hk v hv => b11 (3 * k + v) (by omega)⟩, b0, b1, b2, b3, b4, b6, b9⟩
/-- signs of a tape -/
def tc_ (tp : Nat → Int32) (i : Nat) : Nat := (tp i).toNatClampNeg % 256
theorem tc_lt (tp : Nat → Int32) (i : Nat) : tc_ tp i < 256 := Nat.mod_lt _ (by decide)
/-- all that the calls' answers hang on: the plan, its states, what was learned, care, order, how long the tape is, the tape, the last fault and its place -/
abbrev st_X : Type := pl_P × Nat × lr_T × Bool × Bool × Nat × (Nat → Int32) × Int32 × Int32
abbrev sX_p (s : st_X) : pl_P := s.1
abbrev sX_N (s : st_X) : Nat := s.2.1
abbrev sX_y (s : st_X) : lr_T := s.2.2.1
abbrev sX_c (s : st_X) : Bool := s.2.2.2.1
abbrev sX_o (s : st_X) : Bool := s.2.2.2.2.1
abbrev sX_l (s : st_X) : Nat := s.2.2.2.2.2.1
abbrev sX_t (s : st_X) : Nat → Int32 := s.2.2.2.2.2.2.1
abbrev sX_f (s : st_X) : Int32 := s.2.2.2.2.2.2.2.1
abbrev sX_g (s : st_X) : Int32 := s.2.2.2.2.2.2.2.2
/-- what holds of every state -/
def sX_ok (s : st_X) : Prop := pP_ok (sX_p s) (sX_N s) ∧ sX_l s ≤ 900 ∧ (∀ i, i < sX_l s → sX_t s i = nI (tc_ (sX_t s) i)) ∧ lr_ok (sX_y s)
/-- the class is in the state s -/
def ci (σ : am_St) (s : st_X) : Prop := (am_I σ 0 1 = nI (sX_l s) ∧ (∀ i, i < sX_l s → am_A σ 0 0 i &&& 255 = sX_t s i) ∧ am_I σ 0 4 = sX_f s ∧ am_I σ 0 5 = sX_g s) ∧ cl_v σ (pP_nv (sX_p s)) (pP_ns (sX_p s)) (pP_nb (sX_p s)) (pP_lo (sX_p s)) (pP_wd (sX_p s)) (sX_N s) ∧ am_Wo σ (sX_N s) (pP_K (sX_p s)) (pP_T (sX_p s)) (pw_tb (sX_p s)) (pw_fl (sX_p s) (sX_N s)) (pw_nx (sX_p s)) ∧ le_D σ 6 (sX_y s) (sX_c s) (sX_o s) (tg_al (pP_T (sX_p s))) (sX_N s) ∧ cl_7 σ ∧ cl_ca σ (sX_N s) (pP_K (sX_p s)) (pP_T (sX_p s)) (pw_tb (sX_p s)) (pw_fl (sX_p s) (sX_N s)) (pw_nx (sX_p s)) ∧ cl_s σ (sX_N s) (pP_K (sX_p s)) (pw_tb (sX_p s)) (pw_fl (sX_p s) (sX_N s)) (pw_nx (sX_p s)) (sX_y s) ∧ tg_ok σ (sX_N s) (pP_K (sX_p s)) (pP_T (sX_p s)) (pw_tb (sX_p s)) (pw_fl (sX_p s) (sX_N s)) (pw_nx (sX_p s))
/-- what text answers, and the state behind it -/
def v_text (s : st_X) (x : Int32) : Int32 × st_X :=
  if x < 0 ∨ ¬ x ≤ nI (sX_l s) then (-2, s)
  else match pl_all (tc_ (sX_t s)) x.toNatClampNeg with
    | .inl e => (-1, sX_p s, sX_N s, sX_y s, sX_c s, sX_o s, 0, sX_t s, nI e.1, nI e.2)
    | .inr a => (nI a.1, pQ_p a.2, pQ_N a.2, lr_0, false, false, 0, sX_t s, 0, -1)
theorem v_text_ok {s : st_X} (h : sX_ok s) (x : Int32) : sX_ok (v_text s x).2 := by
  unfold v_text
  split
  · exact h
  · rename_i c
    obtain ⟨c1, c2, c3, c4⟩ := h
    split
    · exact ⟨c1, Nat.zero_le _, fun i hi => absurd hi (Nat.not_lt_zero i), c4⟩
    · rename_i a ha
      have hx : x.toNatClampNeg ≤ 900 := by
        have c' : ¬ x < 0 ∧ x ≤ nI (sX_l s) := ⟨fun z => c (Or.inl z), Decidable.byContradiction (fun z => c (Or.inr z))⟩
        obtain ⟨j, hj, e⟩ := nI_rg (show sX_l s < 2 ^ 31 by omega) c'.1 c'.2
        rw [e, nI_clamp (by omega)]
        omega
      have := pl_tx_ok (tk_s_B hx) _ pq_ok_0 ha
      exact ⟨this.1, Nat.zero_le _, fun i hi => absurd hi (Nat.not_lt_zero i), lr_ok_0⟩
theorem ci.fl {υ : am_St} {s s' : st_X} (h : ci σ s) (hs : s' = (sX_p s, sX_N s, sX_y s, sX_c s, sX_o s, 0, sX_t s, sX_f s', sX_g s')) (h1 : am_I υ 0 1 = 0) (h4 : am_I υ 0 4 = sX_f s') (h5 : am_I υ 0 5 = sX_g s') (A0 : ∀ k, am_A υ 0 k = am_A σ 0 k) (E : ∀ o, o ≠ 0 → o ≠ 1 → o ≠ 2 → o ≠ 3 → am_Eo o σ υ) : ci υ s' := by
  obtain ⟨⟨a1, a2, a3, a4⟩, a5, a6, a7, a8, a9, a10, a11⟩ := h
  have E4 := E 4 (by decide) (by decide) (by decide) (by decide)
  have E7 := E 7 (by decide) (by decide) (by decide) (by decide)
  have E15 := E 15 (by decide) (by decide) (by decide) (by decide)
  rw [hs]
  refine ⟨⟨h1, fun i hi => absurd hi (Nat.not_lt_zero i), h4, h5⟩, ?_, a6.same E4.1 E4.2.1, a7.eo (fun o ho => ?_), ?_, ?_, a10.eo (E 14 (by decide) (by decide) (by decide) (by decide)) (fun _ => rfl), ?_⟩
  · obtain ⟨v1, v2, v3, v4, v5, v6⟩ := a5
    exact ⟨v1, (E4.1 0).trans v2, (E4.1 1).trans v3, (E4.1 2).trans v4, by rw [E4.2.1, E4.2.1]; exact v5, by rw [E4.2.1]; exact v6⟩
  · have : o = 6 ∨ o = 8 ∨ o = 5 ∨ o = 10 ∨ o = 11 := by
      rcases ho with z | z | z | ⟨-, z | z⟩ | ⟨z, -⟩
      · exact Or.inl z
      · exact Or.inr (Or.inl z)
      · exact Or.inr (Or.inr (Or.inl z))
      · exact Or.inr (Or.inr (Or.inr (Or.inl z)))
      · exact Or.inr (Or.inr (Or.inr (Or.inr z)))
      · exact absurd z (by decide)
    exact E o (by omega) (by omega) (by omega) (by omega)
  · unfold cl_7 at a8 ⊢
    rw [E7.2.2.2 3, E7.2.2.2 4]; exact a8
  · intro c o w hw
    rw [A0, A0]; exact a9 c o w hw
  · unfold tg_ok at a11 ⊢
    rw [E15.1, E15.1, E15.1]; exact a11
theorem le_D.cl6 {y : lr_T} {care order : Bool} {tm : Int32} {N : Nat} (h : le_D σ 6 y care order tm N) : cl_6 σ := by
  obtain ⟨c1, hS, hst, ht3, ht4, hne, -⟩ := h
  exact ⟨ht3, ht4, hne⟩
theorem sp_10_text {s : st_X} (h : ci σ s) (hs : sX_ok s) (x : Int32) : am_C false ya_10_text (d + 7) [.ref (am_oid 0), .int x] σ (fun r τ => r = some (.int (v_text s x).1) ∧ ci τ (v_text s x).2) := by
  have h' := h
  obtain ⟨⟨a1, a2, a3, a4⟩, a5, a6, a7, a8, a9, a10, a11⟩ := h'
  obtain ⟨c1, c2, c3, c4⟩ := hs
  refine am_enter rfl (by simp [Value.category]) (Nat.le_of_ble_eq_true rfl) ?_
  unfold v_text
  by_cases z1 : x < 0
  · rw [if_pos (Or.inl z1)]
    exact kb_10_text_0 (kf := fun z => absurd z1 z) (kt := fun _ => kb_10_text_12 ⟨rfl, h⟩)
  refine kb_10_text_0 (kt := fun z => absurd z z1) (kf := fun _ => ?_)
  by_cases z2 : x ≤ nI (sX_l s)
  · rw [if_neg (fun z => z.elim z1 (fun w => w z2))]
    refine kb_10_text_4 (kf := fun z => absurd (by rw [a1]; exact z2) z) (kt := fun _ => ?_)
    obtain ⟨n, hn, e⟩ := nI_rg (show sX_l s < 2 ^ 31 by omega) z1 z2
    subst e
    rw [nI_clamp (show n < 2 ^ 31 by omega)]
    refine kb_10_text_15 (hC := sp_4_read (d := d) (tc := tc_ (sX_t s)) (by omega) (tc_lt _) (fun i hi => by show am_A σ 0 0 i &&& 255 = _; rw [a2 i (by omega)]; exact c3 i (by omega))) (k := fun r τ hr => ?_)
    obtain ⟨L, v, rfl, hv⟩ := hr
    have L0 := L 0 (by decide) (by decide) (by decide)
    have t1 : am_I τ 0 1 = 0 := (L0.1 1).trans (by rw [am_I_sI, if_pos ⟨rfl, rfl⟩])
    have Eτ : ∀ o, o ≠ 0 → o ≠ 1 → o ≠ 2 → o ≠ 3 → am_Eo o σ τ := fun o a b c e => ((am_On.rf.sI 1 0 : am_On 0 σ (am_sI σ 0 1 0)).eo a).tr (L o b c e)
    cases ex : pl_all (tc_ (sX_t s)) n with
    | inl e =>
      have he := pl_tx_e (n + 1) ex
      rw [ex] at hv
      obtain ⟨p1, p2⟩ := hv
      refine kb_10_text_32 (kt := fun z => absurd z (by rw [p1]; exact nI_ne0 he.1 (Nat.lt_of_le_of_lt he.2 (by decide)))) (kf := fun _ => kb_10_text_62 ⟨rfl, ?_⟩)
      have O : am_On 0 τ (am_sI (am_sI τ 0 4 (am_I τ 2 10)) 0 5 (am_I τ 2 11)) := (am_On.rf.sI _ _).sI _ _
      exact h.fl rfl (by rw [am_I_sI, if_neg (by simp), am_I_sI, if_neg (by simp)]; exact t1) (by rw [am_I_sI, if_neg (by simp), am_I_sI, if_pos ⟨rfl, rfl⟩]; exact p1) (by rw [am_I_sI, if_pos ⟨rfl, rfl⟩]; exact p2) (fun k => L0.2.1 k) (fun o a b c e => (Eτ o a b c e).tr (O.eo a))
    | inr a =>
      have hk := pl_tx_ok (tk_s_B (by omega)) (n + 1) pq_ok_0 ex
      rw [ex] at hv
      obtain ⟨rfl, p1, p2, hq⟩ := hv
      refine kb_10_text_32 (kf := fun z => absurd p1 z) (kt := fun _ => ?_)
      have O : am_On 0 τ (am_sI (am_sI τ 0 4 (am_I τ 2 10)) 0 5 (am_I τ 2 11)) := (am_On.rf.sI _ _).sI _ _
      have hq' : cq_P (am_sI (am_sI τ 0 4 (am_I τ 2 10)) 0 5 (am_I τ 2 11)) a.2 := hq.cg (fun k => O.1 1 k (by decide)) (fun k => O.2.1 1 k (by decide))
      have E6 := (Eτ 6 (by decide) (by decide) (by decide) (by decide)).tr (O.eo (by decide))
      have E7 := (Eτ 7 (by decide) (by decide) (by decide) (by decide)).tr (O.eo (by decide))
      have h6 : cl_6 (am_sI (am_sI τ 0 4 (am_I τ 2 10)) 0 5 (am_I τ 2 11)) := by
        have := a7.cl6
        unfold cl_6 at this ⊢
        rw [E6.2.2.2 3, E6.2.2.2 4]; exact this
      have h7 : cl_7 (am_sI (am_sI τ 0 4 (am_I τ 2 10)) 0 5 (am_I τ 2 11)) := by
        unfold cl_7 at a8 ⊢
        rw [E7.2.2.2 3, E7.2.2.2 4]; exact a8
      refine kb_10_text_64 (hC := sp_10_beginAnew (d := d + 2) (hq'.cp hk) h6 h7) (k := fun r ω hr => ?_)
      obtain ⟨rfl, FB, g1, g2, g3, g4, g5, g6, g7⟩ := hr
      refine kb_10_text_68 ⟨rfl, ⟨(FB.1 1).trans ?_, fun i hi => absurd hi (Nat.not_lt_zero i), (FB.1 4).trans ?_, (FB.1 5).trans ?_⟩, g2, g1, g3, g4, g5, g6, g7⟩
      · rw [am_I_sI, if_neg (by simp), am_I_sI, if_neg (by simp)]; exact t1
      · rw [am_I_sI, if_neg (by simp), am_I_sI, if_pos ⟨rfl, rfl⟩]; exact p1
      · rw [am_I_sI, if_pos ⟨rfl, rfl⟩]; exact p2
  · rw [if_pos (Or.inr z2)]
    exact kb_10_text_4 (kt := fun z => absurd (by rw [a1] at z; exact z) z2) (kf := fun _ => kb_10_text_12 ⟨rfl, h⟩)
end CTEXT
