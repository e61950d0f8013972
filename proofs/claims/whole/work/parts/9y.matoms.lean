/-! the reference reads atoms, conditions -/
def ra_At (σ : am_St) (A : pa_A) : Prop := am_A σ 16 4 5 = nI A.1 ∧ ∀ a, a < A.1 → am_A σ 16 4 (182 + 5 * a) = A.2.1 a ∧ ∀ j, j < 4 → am_A σ 16 4 (182 + 5 * a + 1 + j) = A.2.2 a j
/-- in the row fresh nothing has changed below m, but at 5 -/
def rx_a (m : Nat) (σ τ : am_St) : Prop := ∀ k, k < m → k ≠ 5 → am_A τ 16 4 k = am_A σ 16 4 k
section MATOMS
variable {d n i nv : Nat} {tc nm : Nat → Nat} {σ : am_St}
theorem rx_a.rf {m : Nat} : rx_a m σ σ := fun _ _ _ => rfl
theorem rx_a.tr {m : Nat} {τ υ : am_St} (h : rx_a m σ τ) (h' : rx_a m τ υ) : rx_a m σ υ := fun k a b => (h' k a b).trans (h k a b)
theorem rx_a.le {m m' : Nat} {τ : am_St} (h : rx_a m σ τ) (hm : m' ≤ m) : rx_a m' σ τ := fun k a b => h k (by omega) b
theorem rx_a.of {m : Nat} {τ : am_St} (h : am_A τ 16 4 = am_A σ 16 4) : rx_a m σ τ := fun k _ _ => by rw [h]
theorem rx_a.N {m : Nat} {τ : am_St} (h : rr_N σ nv nm) (hm : 1 ≤ m) (o : rx_a m σ τ) (F : mo_XF σ τ) : rr_N τ nv nm := h.cg (o 0 (by omega) (by decide)) (F.2 5 rfl)
/-- five places from to on are 0 -/
theorem ra_zero {Q : Option Value → am_St → Prop} {to : Nat} (ht : to + 5 ≤ 1300) (k : ∀ (G : Nat → Int32), (∀ k, k < to ∨ to + 5 ≤ k → G k = am_A σ 16 4 k) → (∀ j, j < 5 → G (to + j) = 0) → am_T true ya_11_readAtom d Q 35 [some (.ref (am_oid 16)), some (.int (nI to)), some (.int (nI 5))] [] (am_sA σ 16 4 G)) : am_T true ya_11_readAtom d Q 15 [some (.ref (am_oid 16)), some (.int (nI to)), some (.int 0)] [] σ := by
  have loop : ∀ (j x : Nat) (G : Nat → Int32), x + j = 5 → (∀ k, k < to ∨ to + 5 ≤ k → G k = am_A σ 16 4 k) → (∀ j, j < x → G (to + j) = 0) → am_T true ya_11_readAtom d Q 15 [some (.ref (am_oid 16)), some (.int (nI to)), some (.int (nI x))] [] (am_sA σ 16 4 G) := by
    intro j
    induction j with
    | zero =>
      intro x G hx h1 h2
      have : x = 5 := by omega
      subst this
      exact kb_11_readAtom_15 (kf := fun z => absurd (show (5 : Int32) ≤ nI 5 by decide) z) (kt := fun _ => k G h1 h2)
    | succ j ih =>
      intro x G hx h1 h2
      refine kb_11_readAtom_15 (kt := fun z => absurd z (by rw [show (5 : Int32) = nI 5 from rfl]; exact nI_ge (by omega) (by omega))) (kf := fun _ => ?_)
      refine kb_11_readAtom_20 (hi0 := by rw [nI_add]; exact vp_in_nI (by omega) (by decide)) (k := ?_)
      rw [nI_add, nI_clamp (show to + x < 2 ^ 31 by omega), nI_1, am_A_sA, if_pos ⟨rfl, rfl⟩, am_sA_sA]
      refine ih (x + 1) _ (by omega) (fun k hk => by rw [upd_n (by omega)]; exact h1 k hk) (fun j hj => ?_)
      by_cases q : j = x
      · rw [q, upd_s]
      · rw [upd_n (by omega)]; exact h2 j (by omega)
  have := loop 5 0 (am_A σ 16 4) rfl (fun _ _ => rfl) (fun j hj => absurd hj (Nat.not_lt_zero j))
  rw [am_sA_id, nI_0] at this
  exact this
theorem sp_11_readAtom_f {na : Nat} (h : ¬ am_I σ 16 12 = 0) (h5 : am_A σ 16 4 5 = nI na) (hn : na ≤ 144) : am_C true ya_11_readAtom (d + 2) [.ref (am_oid 16)] σ (fun r τ => r = none ∧ mo_XF σ τ ∧ am_I τ 16 12 = am_I σ 16 12 ∧ am_I τ 16 13 = am_I σ 16 13 ∧ ∀ k, k < 182 + 5 * na → am_A τ 16 4 k = am_A σ 16 4 k) := by
  refine am_enter rfl (by simp [Value.category]) (Nat.le_of_ble_eq_true rfl) (kb_11_readAtom_0 (k := ?_))
  have e : (182 : Int32) + 5 * am_A σ 16 4 5 = nI (182 + 5 * na) := by rw [h5, show (5 : Int32) = nI 5 from rfl, nI_mul, show (182 : Int32) = nI 182 from rfl, nI_add]
  rw [e]
  refine ra_zero (by omega) (fun G g1 g2 => ?_)
  have h' : ¬ am_I (am_sA σ 16 4 G) 16 12 = 0 := h
  refine kb_11_readAtom_35 (hC := sp_11_readSum_f h' _ _) (k := fun r τ hr => ?_)
  obtain ⟨rfl, rfl⟩ := hr
  refine kb_11_readAtom_43 (hC := sp_11_isSign_f h' 60) (k := fun r τ hr => ?_)
  obtain ⟨rfl, rfl⟩ := hr
  refine kb_11_readAtom_49 (kt := fun z => absurd rfl z) (kf := fun _ => kb_11_readAtom_52 (hC := sp_11_isSign_f h' 61) (k := fun r τ hr => ?_))
  obtain ⟨rfl, rfl⟩ := hr
  refine kb_11_readAtom_58 (kt := fun z => absurd rfl z) (kf := fun _ => kb_11_readAtom_61 (hC := sp_11_isSign_f h' 62) (k := fun r τ hr => ?_))
  obtain ⟨rfl, rfl⟩ := hr
  refine kb_11_readAtom_67 (kt := fun z => absurd rfl z) (kf := fun _ => kb_11_readAtom_70 (hC := sp_11_wrong_f h' 1) (k := fun r τ hr => ?_))
  obtain ⟨rfl, rfl⟩ := hr
  refine kb_11_readAtom_75 (hC := sp_11_goOn_f h') (k := fun r τ hr => ?_)
  obtain ⟨rfl, rfl⟩ := hr
  refine kb_11_readAtom_84 (hC := sp_11_readSum_f h' _ _) (k := fun r τ hr => ?_)
  obtain ⟨rfl, rfl⟩ := hr
  exact kb_11_readAtom_92 (kt := fun z => absurd z h') (kf := fun _ => kb_11_readAtom_99 ⟨rfl, mo_Fm.rf.sA (by rfl) _, rfl, rfl, fun k hk => by rw [am_A_sA, if_pos ⟨rfl, rfl⟩]; exact g1 k (Or.inl hk)⟩)
theorem sp_11_readAtom_0 {A : pa_A} (h : rr_K σ tc n i) (hN : rr_N σ nv nm) (hA : ra_At σ A) (hn : A.1 ≤ 144) : am_C true ya_11_readAtom (d + 9) [.ref (am_oid 16)] σ (fun r τ => r = none ∧ mo_XF σ τ ∧ rx_a (182 + 5 * A.1) σ τ ∧ rr_R (pa_am (tk_s tc n) nv nm i) (fun x τ => rr_K τ tc n x.1 ∧ ra_At τ (pa_ad A x.2.1 x.2.2)) τ) := by
  refine am_enter rfl (by simp [Value.category]) (Nat.le_of_ble_eq_true rfl) (kb_11_readAtom_0 (k := ?_))
  have e : (182 : Int32) + 5 * am_A σ 16 4 5 = nI (182 + 5 * A.1) := by rw [hA.1, show (5 : Int32) = nI 5 from rfl, nI_mul, show (182 : Int32) = nI 182 from rfl, nI_add]
  rw [e]
  obtain ⟨to, hto⟩ : ∃ to, to = 182 + 5 * A.1 := ⟨_, rfl⟩
  rw [← hto]
  refine ra_zero (by omega) (fun G g1 g2 => ?_)
  obtain ⟨τ0, h0⟩ : ∃ τ0, τ0 = am_sA σ 16 4 G := ⟨_, rfl⟩
  have K0 : rr_K τ0 tc n i := by rw [h0]; exact h.sA
  have F0 : mo_XF σ τ0 := by rw [h0]; exact mo_Fm.rf.sA (by rfl) _
  have A0 : am_A τ0 16 4 = G := by rw [h0, am_A_sA, if_pos ⟨rfl, rfl⟩]
  have o0 : rx_a to σ τ0 := fun k a _ => by rw [A0]; exact g1 k (Or.inl a)
  have N0 : rr_N τ0 nv nm := rx_a.N hN (by omega) o0 F0
  rw [← h0]
  have f0 : rw_f (to + 1) (fun _ => 0) τ0 := fun j hj => by rw [A0, Nat.add_assoc]; exact g2 (1 + j) (by omega)
  refine kb_11_readAtom_35 (hC := by rw [nI_1]; exact sp_11_readSum_0 (d := d) 1 K0 N0 (by omega) (by omega) f0) (k := fun r τ1 hr => ?_)
  obtain ⟨rfl, F1, o1, hr⟩ := hr
  have F01 := F0.tr F1
  have a1 : rx_a to σ τ1 := o0.tr (fun k a _ => o1 k (Or.inl (by omega)))
  have N1 : rr_N τ1 nv nm := rw_o.N N0 (by omega) o1 F1
  have t1 : am_A τ1 16 4 to = 0 := by rw [o1 to (Or.inl (by omega)), A0]; exact g2 0 (by decide)
  /- behind a fault -/
  have behind : ∀ {τ : am_St} {res : pa_F ⊕ (Nat × Int32 × (Nat → Int32))}, ¬ am_I τ 16 12 = 0 → mo_XF σ τ → rx_a to σ τ → rr_R res (fun x τ => rr_K τ tc n x.1 ∧ ra_At τ (pa_ad A x.2.1 x.2.2)) τ → am_T true ya_11_readAtom (d + 9) (fun r τ => r = none ∧ mo_XF σ τ ∧ rx_a to σ τ ∧ rr_R res (fun x τ => rr_K τ tc n x.1 ∧ ra_At τ (pa_ad A x.2.1 x.2.2)) τ) 75 [some (.ref (am_oid 16)), some (.int (nI to)), some (.int (nI 5))] [] τ := fun {τ res} hz F a hr => by
    refine kb_11_readAtom_75 (hC := sp_11_goOn_f hz) (k := fun r υ h' => ?_)
    obtain ⟨rfl, rfl⟩ := h'
    refine kb_11_readAtom_84 (hC := sp_11_readSum_f hz _ _) (k := fun r υ' h' => ?_)
    obtain ⟨rfl, rfl⟩ := h'
    exact kb_11_readAtom_92 (kt := fun z => absurd z hz) (kf := fun _ => kb_11_readAtom_99 ⟨rfl, F, a, hr⟩)
  unfold pa_am
  cases ex : pa_sm (tk_s tc n) nv nm 1 12 i 1 (fun _ => 0) with
  | inl e' =>
    have he := pa_sm_e 12 ex
    rw [ex] at hr
    have hz : ¬ am_I τ1 16 12 = 0 := by rw [hr.1]; exact nI_ne0 he.1 (Nat.lt_of_le_of_lt he.2 (by decide))
    refine kb_11_readAtom_43 (hC := sp_11_isSign_f hz 60) (k := fun r υ h' => ?_)
    obtain ⟨rfl, rfl⟩ := h'
    refine kb_11_readAtom_49 (kt := fun z => absurd rfl z) (kf := fun _ => kb_11_readAtom_52 (hC := sp_11_isSign_f hz 61) (k := fun r υ' h' => ?_))
    obtain ⟨rfl, rfl⟩ := h'
    refine kb_11_readAtom_58 (kt := fun z => absurd rfl z) (kf := fun _ => kb_11_readAtom_61 (hC := sp_11_isSign_f hz 62) (k := fun r υ' h' => ?_))
    obtain ⟨rfl, rfl⟩ := h'
    refine kb_11_readAtom_67 (kt := fun z => absurd rfl z) (kf := fun _ => kb_11_readAtom_70 (hC := sp_11_wrong_f hz 1) (k := fun r υ' h' => ?_))
    obtain ⟨rfl, rfl⟩ := h'
    exact behind hz F01 a1 hr
  | inr x =>
    rw [ex] at hr
    obtain ⟨K1, f1⟩ := hr
    show am_T true ya_11_readAtom (d + 9) (fun r τ => r = none ∧ mo_XF σ τ ∧ rx_a to σ τ ∧ rr_R (if pa_cm (tk_s tc n x.1).1 = true then (match pa_sm (tk_s tc n) nv nm (-1) 12 (x.1 + 1) (-1) x.2 with
      | .inl e => .inl e
      | .inr y => .inr (y.1, nI (tk_s tc n x.1).1, y.2)) else .inl (1, (tk_s tc n x.1).2.1)) (fun x τ => rr_K τ tc n x.1 ∧ ra_At τ (pa_ad A x.2.1 x.2.2)) τ) _ _ _ _
    have sg : ∀ c, 4 ≤ c → c < 256 → am_C true ya_11_isSign (d + 8) [.ref (am_oid 16), .int (nI c)] τ1 (fun r τ => τ = τ1 ∧ r = some (.int (am_bI (decide ((tk_s tc n x.1).1 = c))))) := fun c a b => sp_11_isSign_0 K1 a b
    have go : pa_cm (tk_s tc n x.1).1 = true → am_T true ya_11_readAtom (d + 9) (fun r τ => r = none ∧ mo_XF σ τ ∧ rx_a to σ τ ∧ rr_R (match pa_sm (tk_s tc n) nv nm (-1) 12 (x.1 + 1) (-1) x.2 with
        | .inl e => .inl e
        | .inr y => .inr (y.1, nI (tk_s tc n x.1).1, y.2)) (fun x τ => rr_K τ tc n x.1 ∧ ra_At τ (pa_ad A x.2.1 x.2.2)) τ) 75 [some (.ref (am_oid 16)), some (.int (nI to)), some (.int (nI 5))] [] τ1 := fun hc => by
      have hc2 := of_decide_eq_true (show decide ((tk_s tc n x.1).1 = 60 ∨ (tk_s tc n x.1).1 = 61 ∨ (tk_s tc n x.1).1 = 62) = true from hc)
      have v10 : am_I τ1 16 10 = nI (tk_s tc n x.1).1 := K1.2.1.2.2.2.2.2 (by omega)
      refine kb_11_readAtom_75 (hC := sp_11_goOn_0 (d := d + 2) K1) (k := fun r τ2 h' => ?_)
      obtain ⟨rfl, F2, K2⟩ := h'
      have N2 := N1.kf F2
      refine kb_11_readAtom_84 (hC := by rw [nI_1]; exact sp_11_readSum_0 (d := d) (f := x.2) (-1) K2 N2 (by omega) (by omega) (fun j hj => by rw [F2.a4]; exact f1 j hj)) (k := fun r τ3 h' => ?_)
      obtain ⟨rfl, F3, o3, hr⟩ := h'
      have F03 := (F01.tr F2.kr).tr F3
      have a3 : rx_a to σ τ3 := (a1.tr (rx_a.of F2.a4)).tr (fun k a _ => o3 k (Or.inl (by omega)))
      cases ey : pa_sm (tk_s tc n) nv nm (-1) 12 (x.1 + 1) (-1) x.2 with
      | inl e' =>
        have he := pa_sm_e 12 ey
        rw [ey] at hr
        have hz : ¬ am_I τ3 16 12 = 0 := by rw [hr.1]; exact nI_ne0 he.1 (Nat.lt_of_le_of_lt he.2 (by decide))
        exact kb_11_readAtom_92 (kt := fun z => absurd z hz) (kf := fun _ => kb_11_readAtom_99 ⟨rfl, F03, a3, hr⟩)
      | inr y =>
        rw [ey] at hr
        obtain ⟨K3, f3⟩ := hr
        rw [v10]
        refine kb_11_readAtom_92 (kf := fun z => absurd K3.2.2 z) (kt := fun _ => kb_11_readAtom_100 (hi0 := vp_in_nI (by omega) (by decide)) (hq := ?_))
        rw [nI_clamp (show to < 2 ^ 31 by omega), am_sA_sA]
        have w5 : am_A τ3 16 4 5 = nI A.1 := by
          rw [o3 5 (Or.inl (by omega)), F2.a4, o1 5 (Or.inl (by omega)), A0, g1 5 (Or.inl (by omega))]; exact hA.1
        have e5 : upd (am_A τ3 16 4) to (nI (tk_s tc n x.1).1) 5 = nI A.1 := by rw [upd_n (by omega)]; exact w5
        rw [e5, nI_1]
        obtain ⟨W', hW'⟩ : ∃ W', W' = upd (upd (am_A τ3 16 4) to (nI (tk_s tc n x.1).1)) 5 (nI (A.1 + 1)) := ⟨_, rfl⟩
        rw [← hW']
        have AW : am_A (am_sA τ3 16 4 W') 16 4 = W' := by rw [am_A_sA, if_pos ⟨rfl, rfl⟩]
        have Wo : ∀ k, k ≠ 5 → k ≠ to → W' k = am_A τ3 16 4 k := fun k a b => by rw [hW', upd_n a, upd_n b]
        refine ⟨rfl, F03.sA (by rfl) _, fun k a b => ?_, K3.sA, ?_, fun c hc => ?_⟩
        · rw [AW, Wo k b (by omega)]; exact a3 k a b
        · rw [AW, hW', upd_s]; rfl
        · have hc' : c < A.1 + 1 := hc
          rw [AW]
          show W' (182 + 5 * c) = (if c = A.1 then nI (tk_s tc n x.1).1 else A.2.1 c) ∧ ∀ j, j < 4 → W' (182 + 5 * c + 1 + j) = (if c = A.1 then y.2 else A.2.2 c) j
          by_cases q : c = A.1
          · rw [if_pos q, if_pos q, q, ← hto]
            refine ⟨by rw [hW', upd_n (by omega), upd_s], fun j hj => ?_⟩
            rw [Wo _ (by omega) (by omega)]
            exact f3 j hj
          · rw [if_neg q, if_neg q]
            refine ⟨?_, fun j hj => ?_⟩
            · rw [Wo _ (by omega) (by omega), a3 _ (by omega) (by omega)]; exact (hA.2 c (by omega)).1
            · rw [Wo _ (by omega) (by omega), a3 _ (by omega) (by omega)]; exact (hA.2 c (by omega)).2 j hj
    refine kb_11_readAtom_43 (hC := sg 60 (by decide) (by decide)) (k := fun r υ h' => ?_)
    obtain ⟨rfl, rfl⟩ := h'
    by_cases c60 : (tk_s tc n x.1).1 = 60
    · have hc : pa_cm (tk_s tc n x.1).1 = true := by rw [c60]; decide
      rw [decide_eq_true c60, if_pos hc]
      exact kb_11_readAtom_49 (kf := fun z => absurd z (by decide)) (kt := fun _ => go hc)
    rw [decide_eq_false c60]
    refine kb_11_readAtom_49 (kt := fun z => absurd rfl z) (kf := fun _ => kb_11_readAtom_52 (hC := sg 61 (by decide) (by decide)) (k := fun r υ' h' => ?_))
    obtain ⟨rfl, rfl⟩ := h'
    by_cases c61 : (tk_s tc n x.1).1 = 61
    · have hc : pa_cm (tk_s tc n x.1).1 = true := by rw [c61]; decide
      rw [decide_eq_true c61, if_pos hc]
      exact kb_11_readAtom_58 (kf := fun z => absurd z (by decide)) (kt := fun _ => go hc)
    rw [decide_eq_false c61]
    refine kb_11_readAtom_58 (kt := fun z => absurd rfl z) (kf := fun _ => kb_11_readAtom_61 (hC := sg 62 (by decide) (by decide)) (k := fun r υ' h' => ?_))
    obtain ⟨rfl, rfl⟩ := h'
    by_cases c62 : (tk_s tc n x.1).1 = 62
    · have hc : pa_cm (tk_s tc n x.1).1 = true := by rw [c62]; decide
      rw [decide_eq_true c62, if_pos hc]
      exact kb_11_readAtom_67 (kf := fun z => absurd z (by decide)) (kt := fun _ => go hc)
    rw [decide_eq_false c62]
    have hc : ¬ pa_cm (tk_s tc n x.1).1 = true := fun z => by
      have := of_decide_eq_true (show decide ((tk_s tc n x.1).1 = 60 ∨ (tk_s tc n x.1).1 = 61 ∨ (tk_s tc n x.1).1 = 62) = true from z)
      omega
    rw [if_neg hc]
    refine kb_11_readAtom_67 (kt := fun z => absurd rfl z) (kf := fun _ => kb_11_readAtom_70 (hC := sp_11_wrong_0 K1.2.2 1) (k := fun r υ2 h' => ?_))
    obtain ⟨rfl, hυ⟩ := h'
    rw [K1.2.1.2.1] at hυ
    obtain ⟨w1, w2, w3, w4⟩ := rr_w (σ := υ') (X := Nat × Int32 × (Nat → Int32)) (ok := fun x τ => rr_K τ tc n x.1 ∧ ra_At τ (pa_ad A x.2.1 x.2.2)) (k := 1) (w := (tk_s tc n x.1).2.1) (Or.inl rfl)
    have hυ' : υ2 = am_sI (am_sI υ' 16 12 (nI 1)) 16 13 (nI (tk_s tc n x.1).2.1) := hυ
    rw [← hυ'] at w1 w2 w3 w4
    exact behind w4 (F01.tr w2) (a1.tr (rx_a.of (w3 4))) w1
theorem wh_n7 (u : Nat) : (wh_n u = 7) = (u = 1111) := by
  unfold wh_n
  refine propext ⟨fun h => ?_, fun h => by rw [h]; decide⟩
  by_cases c : u = 1111
  · exact c
  · rw [if_neg c] at h
    split at h
    · exact absurd h (by decide)
    · split at h
      · exact absurd h (by decide)
      · split at h
        · exact absurd h (by decide)
        · split at h
          · exact absurd h (by decide)
          · split at h
            · exact absurd h (by decide)
            · split at h
              · exact absurd h (by decide)
              · split at h
                · exact absurd h (by decide)
                · exact absurd h (by decide)
theorem sp_11_readCondition_f (h : ¬ am_I σ 16 12 = 0) : am_C true ya_11_readCondition d [.ref (am_oid 16)] σ (fun r τ => r = some (.int 0) ∧ τ = σ) :=
  am_enter rfl (by simp [Value.category]) (Nat.le_of_ble_eq_true rfl) (kb_11_readCondition_0 (k := kb_11_readCondition_2 (kt := fun _ => kb_11_readCondition_52 ⟨rfl, rfl⟩) (kf := fun z => absurd z h)))
theorem sp_11_readCondition_0 {A : pa_A} (h : rr_K σ tc n i) (hN : rr_N σ nv nm) (hA : ra_At σ A) (hn : A.1 + 8 ≤ 144) : am_C true ya_11_readCondition (d + 10) [.ref (am_oid 16)] σ (fun r τ => (∃ v, r = some (.int v)) ∧ mo_XF σ τ ∧ rx_a (182 + 5 * A.1) σ τ ∧ rr_R (pa_cd (tk_s tc n) nv nm 8 i A) (fun x τ => rr_K τ tc n x.1 ∧ ra_At τ x.2 ∧ r = some (.int (nI (x.2.1 - A.1)))) τ) := by
  have loop : ∀ (m t k : Nat) (B : pa_A) (τ : am_St), t + m = 8 → rr_K τ tc n k → rr_N τ nv nm → ra_At τ B → B.1 = A.1 + t → mo_XF σ τ → rx_a (182 + 5 * A.1) σ τ → am_T true ya_11_readCondition (d + 10) (fun r τ => (∃ v, r = some (.int v)) ∧ mo_XF σ τ ∧ rx_a (182 + 5 * A.1) σ τ ∧ rr_R (pa_cd (tk_s tc n) nv nm m k B) (fun x τ => rr_K τ tc n x.1 ∧ ra_At τ x.2 ∧ r = some (.int (nI (x.2.1 - A.1)))) τ) 2 [some (.ref (am_oid 16)), some (.int (nI t))] [] τ := by
    intro m
    have stop : ∀ {τ : am_St} {res : pa_F} {t : Nat}, ¬ am_I τ 16 12 = 0 → mo_XF σ τ → rx_a (182 + 5 * A.1) σ τ → am_I τ 16 12 = nI res.1 → am_I τ 16 13 = nI res.2 → am_T true ya_11_readCondition (d + 10) (fun r τ => (∃ v, r = some (.int v)) ∧ mo_XF σ τ ∧ rx_a (182 + 5 * A.1) σ τ ∧ rr_R (.inl res) (fun (x : Nat × pa_A) τ => rr_K τ tc n x.1 ∧ ra_At τ x.2 ∧ r = some (.int (nI (x.2.1 - A.1)))) τ) 31 [some (.ref (am_oid 16)), some (.int (nI t))] [] τ := fun {τ res t} hz F a e1 e2 => by
      refine kb_11_readCondition_31 (hC := sp_11_isWord_f hz 7) (k := fun r υ h' => ?_)
      obtain ⟨rfl, rfl⟩ := h'
      exact kb_11_readCondition_40 (kt := fun z => absurd rfl z) (kf := fun _ => kb_11_readCondition_43 ⟨⟨_, rfl⟩, F, a, e1, e2⟩)
    induction m with
    | zero =>
      intro t k B τ ht hK hNk hB hBt F a
      have : t = 8 := by omega
      subst this
      have e0 : pa_cd (tk_s tc n) nv nm 0 k B = .inl (pa_no (tk_s tc n) nv nm k) := rfl
      rw [e0]
      refine kb_11_readCondition_2 (kt := fun z => absurd hK.2.2 z) (kf := fun _ => kb_11_readCondition_9 (kt := fun z => absurd rfl z) (kf := fun _ => ?_))
      refine kb_11_readCondition_15 (hC := sp_11_isTermHere_0 hK hNk) (k := fun r υ hr => ?_)
      obtain ⟨rfl, rfl⟩ := hr
      unfold pa_no
      cases e : pa_bt (tk_s tc n) nv nm k with
      | true =>
        rw [if_pos rfl]
        refine kb_11_readCondition_19 (kt := fun z => absurd z (by decide)) (kf := fun _ => ?_)
        refine kb_11_readCondition_22 (hC := sp_11_wrong_0 hK.2.2 2) (k := fun r ω hr => ?_)
        obtain ⟨rfl, hω⟩ := hr
        rw [hK.2.1.2.1] at hω
        obtain ⟨w1, w2, w3, w4⟩ := rr_w (σ := υ) (X := Nat) (ok := fun _ _ => True) (k := 2) (w := (tk_s tc n k).2.1) (Or.inr (Or.inl rfl))
        have hω' : ω = am_sI (am_sI υ 16 12 (nI 2)) 16 13 (nI (tk_s tc n k).2.1) := hω
        rw [← hω'] at w1 w2 w3 w4
        refine kb_11_readCondition_27 (hC := sp_11_readAtom_f (na := B.1) w4 (by rw [w3 4]; exact hB.1) (by omega)) (k := fun r ω2 hr => ?_)
        obtain ⟨rfl, F2, e12, e13, o2⟩ := hr
        exact stop (by rw [e12]; exact w4) ((F.tr w2).tr F2) ((a.tr (rx_a.of (w3 4))).tr (fun q q1 _ => o2 q (by omega))) (e12.trans w1.1) (e13.trans w1.2)
      | false =>
        rw [if_neg (by decide)]
        refine kb_11_readCondition_19 (kf := fun z => absurd rfl z) (kt := fun _ => ?_)
        refine kb_11_readCondition_27 (hC := sp_11_readAtom_0 (d := d) hK hNk hB (by omega)) (k := fun r ω hr => ?_)
        obtain ⟨rfl, F2, a2, hr⟩ := hr
        rw [pa_am_no e] at hr
        exact stop (by rw [hr.1]; exact nI_ne0 (by show 0 < 1; decide) (by show 1 < 2 ^ 31; decide)) (F.tr F2) (a.tr (a2.le (by omega))) hr.1 hr.2
    | succ m ih =>
      intro t k B τ ht hK hNk hB hBt F a
      have e1 : pa_cd (tk_s tc n) nv nm (m + 1) k B = match pa_am (tk_s tc n) nv nm k with
        | .inl e => .inl e
        | .inr x => if pa_w 1111 (tk_s tc n x.1) = true then pa_cd (tk_s tc n) nv nm m (x.1 + 1) (pa_ad B x.2.1 x.2.2) else .inr (x.1, pa_ad B x.2.1 x.2.2) := rfl
      refine kb_11_readCondition_2 (kt := fun z => absurd hK.2.2 z) (kf := fun _ => kb_11_readCondition_9 (kf := fun z => absurd (nI_inj (by omega) (by decide) (show nI t = nI 8 from z)) (by omega)) (kt := fun _ => ?_))
      refine kb_11_readCondition_27 (hC := sp_11_readAtom_0 (d := d) hK hNk hB (by omega)) (k := fun r ω hr => ?_)
      obtain ⟨rfl, F2, a2, hr⟩ := hr
      have F12 := F.tr F2
      have a12 := a.tr (a2.le (by omega))
      cases ex : pa_am (tk_s tc n) nv nm k with
      | inl e' =>
        have he := pa_am_e ex
        rw [ex] at hr e1
        rw [e1]
        exact stop (by rw [hr.1]; exact nI_ne0 he.1 (Nat.lt_of_le_of_lt he.2 (by decide))) F12 a12 hr.1 hr.2
      | inr x =>
        rw [ex] at hr e1
        obtain ⟨hK2, hB2⟩ := hr
        rw [e1]
        show am_T true ya_11_readCondition (d + 10) (fun r τ => (∃ v, r = some (.int v)) ∧ mo_XF σ τ ∧ rx_a (182 + 5 * A.1) σ τ ∧ rr_R (if pa_w 1111 (tk_s tc n x.1) = true then pa_cd (tk_s tc n) nv nm m (x.1 + 1) (pa_ad B x.2.1 x.2.2) else .inr (x.1, pa_ad B x.2.1 x.2.2)) (fun x τ => rr_K τ tc n x.1 ∧ ra_At τ x.2 ∧ r = some (.int (nI (x.2.1 - A.1)))) τ) _ _ _ _
        have hN2 : rr_N ω nv nm := rx_a.N hNk (by omega) a2 F2
        refine kb_11_readCondition_31 (hC := sp_11_isWord_0 hK2 wh_n7) (k := fun r ω2 h' => ?_)
        obtain ⟨rfl, rfl⟩ := h'
        rw [nI_1]
        cases hw : pa_w 1111 (tk_s tc n x.1) with
        | true =>
          rw [if_pos rfl]
          refine kb_11_readCondition_40 (kf := fun z => absurd z (by decide)) (kt := fun _ => ?_)
          refine kb_11_readCondition_45 (hC := sp_11_goOn_0 (d := d + 3) hK2) (k := fun r ω3 h' => ?_)
          obtain ⟨rfl, F3, hK3⟩ := h'
          refine kb_11_readCondition_49 (k := ih (t + 1) (x.1 + 1) _ ω3 (by omega) hK3 (hN2.kf F3) ⟨by rw [F3.a4]; exact hB2.1, by rw [F3.a4]; exact hB2.2⟩ (by show B.1 + 1 = _; omega) (F12.tr F3.kr) (a12.tr (rx_a.of F3.a4)))
        | false =>
          rw [if_neg (by decide)]
          refine kb_11_readCondition_40 (kt := fun z => absurd rfl z) (kf := fun _ => kb_11_readCondition_43 ⟨⟨_, rfl⟩, F12, a12, hK2, hB2, ?_⟩)
          show some (Value.int (nI (t + 1))) = some (.int (nI (B.1 + 1 - A.1)))
          rw [show B.1 + 1 - A.1 = t + 1 by omega]
  refine am_enter rfl (by simp [Value.category]) (Nat.le_of_ble_eq_true rfl) (kb_11_readCondition_0 (k := ?_))
  exact loop 8 0 i A σ rfl h hN hA rfl mo_Fm.rf rx_a.rf
end MATOMS
