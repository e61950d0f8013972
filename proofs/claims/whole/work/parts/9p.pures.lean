/-! what holds of all that is read: progress, faults, the plan's bounds -/
def pa_E (e : pa_F) : Prop := 1 ≤ e.1 ∧ e.1 ≤ 3
section PUREF
variable {S : Nat → tk_T} {nv : Nat} {nm : Nat → Nat}
theorem pa_no_e {i : Nat} : pa_E (pa_no S nv nm i) := by
  unfold pa_no
  split
  · exact ⟨by show 1 ≤ 2; decide, by show 2 ≤ 3; decide⟩
  · exact ⟨by show 1 ≤ 1; decide, by show 1 ≤ 3; decide⟩
theorem pa_E1 {p : Nat} : pa_E (1, p) := ⟨by show 1 ≤ 1; decide, by show 1 ≤ 3; decide⟩
theorem pa_E2 {p : Nat} : pa_E (2, p) := ⟨by show 1 ≤ 2; decide, by show 2 ≤ 3; decide⟩
theorem pa_E3 {p : Nat} : pa_E (3, p) := ⟨by show 1 ≤ 3; decide, by show 3 ≤ 3; decide⟩
theorem pa_tm_e {i : Nat} {sg : Int32} {f : Nat → Int32} {e : pa_F} (h : pa_tm S nv nm i sg f = .inl e) : pa_E e := by
  unfold pa_tm at h
  split at h
  · split at h
    · cases h; exact pa_E2
    · split at h
      · split at h
        · cases h; exact pa_E1
        · cases h
      · cases h
  · split at h
    · cases h; exact pa_E1
    · cases h
theorem pa_sm_e {side : Int32} : ∀ (r : Nat) {i : Nat} {sg : Int32} {f : Nat → Int32} {e : pa_F}, pa_sm S nv nm side r i sg f = .inl e → pa_E e := by
  intro r
  induction r with
  | zero => intro i sg f e h; unfold pa_sm at h; cases h; exact pa_no_e
  | succ r ih =>
    intro i sg f e h
    unfold pa_sm at h
    split at h
    · rename_i hy
      cases h
      exact pa_tm_e hy
    · split at h
      · exact ih h
      · split at h
        · exact ih h
        · cases h
theorem pa_am_e {i : Nat} {e : pa_F} (h : pa_am S nv nm i = .inl e) : pa_E e := by
  unfold pa_am at h
  split at h
  · rename_i hy
    cases h
    exact pa_sm_e 12 hy
  · split at h
    · split at h
      · rename_i hy
        cases h
        exact pa_sm_e 12 hy
      · cases h
    · cases h; exact pa_E1
theorem pa_cd_e : ∀ (r : Nat) {i : Nat} {A : pa_A} {e : pa_F}, pa_cd S nv nm r i A = .inl e → pa_E e := by
  intro r
  induction r with
  | zero => intro i A e h; unfold pa_cd at h; cases h; exact pa_no_e
  | succ r ih =>
    intro i A e h
    unfold pa_cd at h
    split at h
    · rename_i hy
      cases h
      exact pa_am_e hy
    · split at h
      · exact ih h
      · cases h
theorem pa_sn_e {low : Int} {i : Nat} {e : pa_F} (h : pa_sn S low i = .inl e) : pa_E e := by
  unfold pa_sn at h
  split at h
  · split at h
    · split at h
      · cases h; exact pa_E2
      · cases h
    · cases h; exact pa_E1
  · split at h
    · split at h
      · cases h; exact pa_E2
      · cases h
    · cases h; exact pa_E1
end PUREF
section PUREL
variable {S : Nat → tk_T} {q : pa_Q} {i : Nat}
theorem pl_con_e {j c ns nb K T : Nat} {e : pa_F} (h : pl_con S q j c ns nb K T = .inl e) : pa_E e := by
  unfold pl_con at h
  split at h
  · rename_i hy
    cases h
    exact pa_cd_e 8 hy
  · cases h
theorem pl_line_e {e : pa_F} (h : pl_line S q i = .inl e) : pa_E e := by
  unfold pl_line at h
  split at h
  · unfold pl_var at h
    split at h
    · cases h; exact pa_E1
    · split at h
      · cases h; exact pa_E2
      · split at h
        · cases h; exact pa_E1
        · split at h
          · cases h; exact pa_E3
          · split at h
            · rename_i hy
              cases h
              exact pa_sn_e hy
            · split at h
              · rename_i hy
                cases h
                exact pa_sn_e hy
              · split at h
                · cases h; exact pa_E2
                · cases h
  · split at h
    · unfold pl_start at h
      split at h
      · cases h; exact pa_E2
      · exact pl_con_e h
    · split at h
      · unfold pl_bad at h
        split at h
        · cases h; exact pa_E2
        · exact pl_con_e h
      · split at h
        · unfold pl_step at h
          split at h
          · cases h; exact pa_E2
          · split at h
            · exact pl_con_e h
            · cases h
        · split at h
          · unfold pl_set at h
            split at h
            · cases h; exact pa_E1
            · split at h
              · cases h; exact pa_E1
              · split at h
                · cases h; exact pa_E3
                · split at h
                  · cases h; exact pa_E1
                  · split at h
                    · rename_i hy
                      cases h
                      exact pa_sm_e 12 hy
                    · cases h
          · split at h
            · unfold pl_test at h
              split at h
              · cases h; exact pa_E2
              · split at h
                · rename_i hy
                  cases h
                  exact pa_am_e hy
                · cases h
            · cases h; exact pa_E1
theorem pl_ln_e {e : pa_F} (h : pl_ln S q i = .inl e) : pa_E e := by
  unfold pl_ln at h
  split at h
  · rename_i hy
    cases h
    exact pl_line_e hy
  · split at h
    · cases h
    · cases h; exact pa_E1
theorem pl_tx_e : ∀ (f : Nat) {i : Nat} {q : pa_Q} {l : Nat} {e : pa_F}, pl_tx S f i q l = .inl e → pa_E e := by
  intro f
  induction f with
  | zero => intro i q l e h; unfold pl_tx at h; cases h
  | succ f ih =>
    intro i q l e h
    unfold pl_tx at h
    split at h
    · cases h
    · split at h
      · rename_i hy
        cases h
        exact pl_ln_e hy
      · exact ih h
/-- what holds of tokens -/
def tk_B (S : Nat → tk_T) : Prop := ∀ t, (S t).1 < 256 ∧ (S t).2.1 ≤ 900 ∧ (S t).2.2.2 < 387420489
theorem wl_p_cg {wd wd' : Nat → Nat} : ∀ {k : Nat}, (∀ v, v < k → wd' v = wd v) → wl_p wd' k = wl_p wd k := by
  intro k
  induction k with
  | zero => intro _; rfl
  | succ k ih =>
    intro h
    show wl_p wd' k * wd' k = wl_p wd k * wd k
    rw [ih (fun v hv => h v (by omega)), h k (by omega)]
theorem pq_ok.v {w : Nat} {lo hi : Int} (h : pq_ok q) (hn : pP_nv (pQ_p q) < 3) (h1 : -20 ≤ lo) (h2 : lo ≤ hi) (h3 : hi ≤ 20) (hN : pQ_N q * (hi - lo + 1).toNat ≤ 600) (hw : w < 387420489) (hl : pa_lg w = false) : pq_ok (pq_v q w lo hi) := by
  obtain ⟨⟨⟨c1, c2, c3, c4⟩, n1, n2, n3, n4⟩, a1, a2, a3, a4, a5, a6⟩ := h
  refine ⟨⟨⟨by show pP_nv (pQ_p q) + 1 ≤ 3; omega, fun v hv => ?_, ?_, hN⟩, n1, n2, n3, n4⟩, a1, a2, a3, a4, a5, fun v hv => ?_⟩
  · have hv' : v < pP_nv (pQ_p q) + 1 := hv
    show -20 ≤ up1 (pP_lo (pQ_p q)) (pP_nv (pQ_p q)) lo v ∧ 1 ≤ up1 (pP_wd (pQ_p q)) (pP_nv (pQ_p q)) (hi - lo + 1).toNat v ∧ up1 (pP_lo (pQ_p q)) (pP_nv (pQ_p q)) lo v + ((up1 (pP_wd (pQ_p q)) (pP_nv (pQ_p q)) (hi - lo + 1).toNat v : Nat) : Int) ≤ 21
    unfold up1
    by_cases e : v = pP_nv (pQ_p q)
    · rw [if_pos e, if_pos e]; omega
    · rw [if_neg e, if_neg e]; exact c2 v (by omega)
  · show pQ_N q * (hi - lo + 1).toNat = wl_p (up1 (pP_wd (pQ_p q)) (pP_nv (pQ_p q)) (hi - lo + 1).toNat) (pP_nv (pQ_p q)) * up1 (pP_wd (pQ_p q)) (pP_nv (pQ_p q)) (hi - lo + 1).toNat (pP_nv (pQ_p q))
    rw [wl_p_cg (wd := pP_wd (pQ_p q)) (fun v hv => by unfold up1; rw [if_neg (by omega)]), ← c3]
    unfold up1
    rw [if_pos rfl]
  · have hv' : v < pP_nv (pQ_p q) + 1 := hv
    show up1 (pQ_nm q) (pP_nv (pQ_p q)) w v < _ ∧ pa_lg (up1 (pQ_nm q) (pP_nv (pQ_p q)) w v) = false
    unfold up1
    by_cases e : v = pP_nv (pQ_p q)
    · rw [if_pos e]; exact ⟨hw, hl⟩
    · rw [if_neg e]; exact a6 v (by omega)
/-- a condition in the slot c -/
theorem pq_ok.c {c ns nb K T : Nat} {A : pa_A} {cn' : Nat} (h : pq_ok q) (hA : pa_le (pQ_A q) A) (hcn : pQ_na q + cn' ≤ A.1) (b1 : ns ≤ 4) (b2 : nb ≤ 4) (b3 : K ≤ 8) (b4 : T ≤ 16) (hna : A.1 ≤ 8 * (ns + nb + K) + T) (hT : ∀ t, t < T → (16 + t = c → cn' = 1) ∧ (16 + t ≠ c → t < pP_T (pQ_p q))) (hK : pP_K (pQ_p q) ≤ K) (hc : ∀ k, K ≤ k → k < 8 → 8 + k ≠ c) : pq_ok (pq_c q ns nb K T A (up1 (pP_cf (pQ_p q)) c (pQ_na q)) (up1 (pP_cn (pQ_p q)) c cn')) := by
  obtain ⟨⟨c1, n1, n2, n3, n4⟩, a1, a2, a3, a4, a5, a6⟩ := h
  have hA1 : pQ_na q ≤ A.1 := hA.1
  refine ⟨⟨c1, b1, b2, b3, b4⟩, hna, fun c' hc' => ?_, fun a ha => ?_, fun t ht => ?_, fun k h1 h2 => ?_, a6⟩
  · show up1 (pP_cf (pQ_p q)) c (pQ_na q) c' + up1 (pP_cn (pQ_p q)) c cn' c' ≤ A.1
    unfold up1
    by_cases e : c' = c
    · rw [if_pos e, if_pos e]; exact hcn
    · rw [if_neg e, if_neg e]; exact Nat.le_trans (a2 c' hc') hA1
  · show A.2.1 a = 60 ∨ A.2.1 a = 61 ∨ A.2.1 a = 62
    rcases Nat.lt_or_ge a (pQ_na q) with e | e
    · rw [(hA.2.1 a e).1]; exact a3 a e
    · exact hA.2.2 a e ha
  · show up1 (pP_cn (pQ_p q)) c cn' (16 + t) = 1
    unfold up1
    by_cases e : 16 + t = c
    · rw [if_pos e]; exact (hT t ht).1 e
    · rw [if_neg e]; exact a4 t ((hT t ht).2 e)
  · refine ⟨?_, (a5 k (Nat.le_trans hK h1) h2).2⟩
    show up1 (pP_cn (pQ_p q)) c cn' (8 + k) = 0
    unfold up1
    rw [if_neg (hc k h1 h2)]
    exact (a5 k (Nat.le_trans hK h1) h2).1
theorem pq_ok.con {j c ns nb K T : Nat} {x : Nat × pa_Q} (h : pq_ok q) (hx : pl_con S q j c ns nb K T = .inr x) (b1 : ns ≤ 4) (b2 : nb ≤ 4) (b3 : K ≤ 8) (b4 : T = pP_T (pQ_p q)) (hna : 8 * (ns + nb + K) = 8 * (pP_ns (pQ_p q) + pP_nb (pQ_p q) + pP_K (pQ_p q)) + 8) (hc16 : c < 16) (hK : pP_K (pQ_p q) ≤ K) (hc : ∀ k, K ≤ k → k < 8 → 8 + k ≠ c) : pq_ok x.2 ∧ j < x.1 := by
  unfold pl_con at hx
  split at hx
  · cases hx
  · rename_i y hy
    obtain ⟨g1, g2, g3, g4⟩ := pa_cd_gt 8 hy pa_le.rf
    cases hx
    have g2' : y.2.1 ≤ pQ_na q + 8 := g2
    have g3' : pQ_na q < y.2.1 := g3
    have h1 := h.2.1
    exact ⟨h.c g4 (by omega) b1 b2 b3 (by rw [b4]; exact h.1.2.2.2.2) (by omega) (fun t ht => ⟨fun z => by omega, fun _ => by omega⟩) hK hc, g1⟩
theorem pq_ok.s {x : Nat} {f : Nat → Int32} (h : pq_ok q) (hx : x < 3 * pP_K (pQ_p q)) : pq_ok (pq_s q x f) := by
  obtain ⟨c1, a1, a2, a3, a4, a5, a6⟩ := h
  refine ⟨c1, a1, a2, a3, a4, fun k h1 h2 => ⟨(a5 k h1 h2).1, fun v hv => ?_⟩, a6⟩
  show up1 (pP_g (pQ_p q)) x true (3 * k + v) = false
  have h1' : pP_K (pQ_p q) ≤ k := h1
  unfold up1
  rw [if_neg (by omega)]
  exact (a5 k h1 h2).2 v hv
theorem pl_line_ok {x : Nat × pa_Q} (hB : tk_B S) (h : pq_ok q) (hx : pl_line S q i = .inr x) : pq_ok x.2 ∧ i < x.1 := by
  obtain ⟨⟨c1, n1, n2, n3, n4⟩, a1, a2, a3, a4, a5, a6⟩ := h
  have h : pq_ok q := ⟨⟨c1, n1, n2, n3, n4⟩, a1, a2, a3, a4, a5, a6⟩
  unfold pl_line at hx
  split at hx
  · unfold pl_var at hx
    split at hx
    · cases hx
    · split at hx
      · cases hx
      · split at hx
        · cases hx
        · split at hx
          · cases hx
          · split at hx
            · cases hx
            · rename_i e1 e2 e3 e4 y hy
              split at hx
              · cases hx
              · rename_i z hz
                split at hx
                · cases hx
                · rename_i e5
                  cases hx
                  have p1 := pa_sn_gt hy
                  have p2 := pa_sn_gt hz
                  refine ⟨h.v (by omega) p1.2.1 p2.2.1 p2.2.2 (by omega) (hB (i + 1)).2.2 ?_, by show i < z.1; omega⟩
                  cases e : pa_lg (S (i + 1)).2.2.2 with
                  | false => rfl
                  | true => exact absurd (Or.inr e) e2
  · split at hx
    · unfold pl_start at hx
      split at hx
      · cases hx
      · have := h.con hx (by omega) (by omega) (by omega) rfl (by omega) (by omega) (Nat.le_refl _) (fun k _ _ => by omega)
        exact ⟨this.1, by omega⟩
    · split at hx
      · unfold pl_bad at hx
        split at hx
        · cases hx
        · have := h.con hx (by omega) (by omega) (by omega) rfl (by omega) (by omega) (Nat.le_refl _) (fun k _ _ => by omega)
          exact ⟨this.1, by omega⟩
      · split at hx
        · unfold pl_step at hx
          split at hx
          · cases hx
          · rename_i e8
            split at hx
            · have := h.con hx (by omega) (by omega) (by omega) rfl (by omega) (by omega) (Nat.le_succ _) (fun k _ _ => by omega)
              exact ⟨this.1, by omega⟩
            · cases hx
              refine ⟨⟨⟨c1, n1, n2, by show pP_K (pQ_p q) + 1 ≤ 8; omega, n4⟩, by show pQ_na q ≤ 8 * (pP_ns (pQ_p q) + pP_nb (pQ_p q) + (pP_K (pQ_p q) + 1)) + pP_T (pQ_p q); omega, a2, a3, a4, fun k k1 k2 => ?_, a6⟩, Nat.lt_succ_self _⟩
              have k1' : pP_K (pQ_p q) + 1 ≤ k := k1
              exact a5 k (by omega) k2
        · split at hx
          · unfold pl_set at hx
            split at hx
            · cases hx
            · split at hx
              · cases hx
              · rename_i e0 _ v hv
                split at hx
                · cases hx
                · split at hx
                  · cases hx
                  · split at hx
                    · cases hx
                    · rename_i y hy
                      cases hx
                      have g := pa_sm_gt 12 hy
                      have hv' := (pa_v_lt hv).1
                      have := c1.1
                      refine ⟨h.s (by omega), by show i < y.1; omega⟩
          · split at hx
            · unfold pl_test at hx
              split at hx
              · cases hx
              · rename_i e16
                split at hx
                · cases hx
                · rename_i y hy
                  cases hx
                  obtain ⟨g, gs⟩ := pa_am_gt hy
                  refine ⟨h.c (pa_le.rf.ad gs _) (Nat.le_refl _) n1 n2 n3 (by omega) (by show pQ_na q + 1 ≤ _; omega) (fun t ht => ⟨fun _ => rfl, fun z => by omega⟩) (Nat.le_refl _) (fun k _ _ => by omega), by show i < y.1; omega⟩
            · cases hx
theorem pl_ln_ok {x : Nat × pa_Q} (hB : tk_B S) (h : pq_ok q) (hx : pl_ln S q i = .inr x) : pq_ok x.2 ∧ i < x.1 := by
  unfold pl_ln at hx
  split at hx
  · cases hx
  · rename_i y hy
    have := pl_line_ok hB h hy
    split at hx
    · cases hx
      exact ⟨this.1, Nat.lt_succ_of_lt this.2⟩
    · cases hx
theorem pq_ok_0 : pq_ok pa_0 := ⟨⟨⟨Nat.zero_le _, fun v hv => absurd hv (Nat.not_lt_zero v), rfl, by show 1 ≤ 600; decide⟩, Nat.zero_le _, Nat.zero_le _, Nat.zero_le _, Nat.zero_le _⟩, Nat.le_refl _, fun _ _ => Nat.le_refl _, fun a ha => absurd ha (Nat.not_lt_zero a), fun a ha => absurd ha (Nat.not_lt_zero a), fun _ _ _ => ⟨rfl, fun _ _ => rfl⟩, fun a ha => absurd ha (Nat.not_lt_zero a)⟩
theorem pl_tx_ok (hB : tk_B S) : ∀ (f : Nat) {i : Nat} {q : pa_Q} {l : Nat} {x : Nat × pa_Q}, pq_ok q → pl_tx S f i q l = .inr x → pq_ok x.2 := by
  intro f
  induction f with
  | zero => intro i q l x h hx; unfold pl_tx at hx; cases hx; exact h
  | succ f ih =>
    intro i q l x h hx
    unfold pl_tx at hx
    split at hx
    · cases hx; exact h
    · split at hx
      · cases hx
      · rename_i y hy
        exact ih (pl_ln_ok hB h hy).1 hx
end PUREL
