/-! both sides begin anew with a plan -/
theorem rm_P.cg {σ τ : am_St} {p : pl_P} {N : Nat} (h : rm_P σ p N) (hW : ∀ k, k < 1300 → am_A τ 16 3 k = am_A σ 16 3 k) : rm_P τ p N := by
  obtain ⟨a1, ⟨g0, g1, g2, g3, g4⟩, ⟨na, m1, m2, m3, m4, m5, m6, m7⟩, a4, a5⟩ := h
  obtain ⟨o0, o1, o2, o3, o4⟩ := id a1
  have hnv : pP_nv p ≤ 3 := o0.1
  refine ⟨a1, ⟨g0, by rw [hW 0 (by omega)]; exact g1, by rw [hW 1 (by omega)]; exact g2, by rw [hW 2 (by omega)]; exact g3, fun v hv => by rw [hW _ (by omega), hW _ (by omega)]; exact g4 v hv⟩, ⟨na, m1, m2, fun c hc => by rw [hW _ (by omega), hW _ (by omega)]; exact m3 c hc, fun c hc => by rw [hW _ (by omega), hW _ (by omega)]; exact m4 c hc, fun k hk => ?_, fun t ht => by rw [hW _ (by omega)]; exact m6 t ht, fun a ha => ?_⟩, by rw [hW 3 (by omega)]; exact a4, by rw [hW 4 (by omega)]; exact a5⟩
  · obtain ⟨q1, q2, q3⟩ := m5 k hk
    refine ⟨by rw [hW _ (by omega)]; exact q1, by rw [hW _ (by omega)]; exact q2, fun v hv => ?_⟩
    obtain ⟨r1, r2⟩ := q3 v hv
    exact ⟨by rw [hW _ (by omega)]; exact r1, fun hg j hj => by rw [hW _ (by omega)]; exact r2 hg j hj⟩
  · obtain ⟨q1, q2, q3⟩ := m7 a ha
    exact ⟨by rw [hW _ (by omega)]; exact q1, q2, fun j hj => by rw [hW _ (by omega)]; exact q3 j hj⟩
section ANEW
variable {d N : Nat} {p : pl_P} {σ : am_St}
abbrev mo_BF := mo_Fm [17, 28, 29] [3, 18, 19, 20, 21, 22, 23, 24, 25, 27]
theorem sp_11_becomes0 (h : rm_P (am_sA σ 16 3 (am_A σ 16 4)) p N) (h30 : am_I σ 16 30 = -1) : am_C true ya_11_becomes (d + 5) [.ref (am_oid 16)] σ (fun r τ => r = none ∧ mo_BF σ τ ∧ (∀ k, k < 1300 → am_A τ 16 3 k = am_A σ 16 4 k) ∧ mo_V τ (pP_nv p) (pP_ns p) (pP_nb p) (pP_lo p) (pP_wd p) N ∧ mo_Wo τ N (pP_K p) (pP_T p) (pw_tb p) (pw_fl p N) (pw_nx p) ∧ mo_C τ lr_0 false false (fun t => bt (tg_al (pP_T p)) t) (pP_T p) N) := by
  have hT : pP_T p ≤ 16 := h.1.2.2.2.2
  have e1300 : (1300 : Int32) = nI 1300 := by decide
  have eL : ∀ G : Nat → Int32, am_A (am_sA σ 16 3 G) 16 3 = G := fun G => by rw [am_A_sA, if_pos ⟨rfl, rfl⟩]
  have e4 : ∀ G : Nat → Int32, am_A (am_sA σ 16 3 G) 16 4 = am_A σ 16 4 := fun G => by rw [am_A_sA, if_neg (by simp)]
  have loop : ∀ (j i : Nat), i + j = 1300 → ∀ G : Nat → Int32, (∀ k, k < i → G k = am_A σ 16 4 k) → am_T true ya_11_becomes (d + 5) (fun r τ => r = none ∧ mo_BF σ τ ∧ (∀ k, k < 1300 → am_A τ 16 3 k = am_A σ 16 4 k) ∧ mo_V τ (pP_nv p) (pP_ns p) (pP_nb p) (pP_lo p) (pP_wd p) N ∧ mo_Wo τ N (pP_K p) (pP_T p) (pw_tb p) (pw_fl p N) (pw_nx p) ∧ mo_C τ lr_0 false false (fun t => bt (tg_al (pP_T p)) t) (pP_T p) N) 2 [some (.ref (am_oid 16)), some (.int (nI i))] [] (am_sA σ 16 3 G) := by
    intro j
    induction j with
    | zero =>
      intro i hi G hG
      have : i = 1300 := by omega
      subst this
      obtain ⟨υ, hυ⟩ : ∃ υ, υ = am_sI (am_sI (am_sA σ 16 3 G) 16 28 0) 16 29 0 := ⟨_, rfl⟩
      have u3 : am_A υ 16 3 = G := by rw [hυ]; show am_A (am_sA σ 16 3 G) 16 3 = G; exact eL G
      have F0 : mo_BF σ υ := by rw [hυ]; exact ((mo_Fm.rf.sA (by rfl) _).sI (by rfl) _).sI (by rfl) _
      have P0 : rm_P υ p N := h.cg (fun k hk => by rw [u3, eL]; exact hG k hk)
      refine kb_11_becomes_2 (kt := fun _ => ?_) (kf := fun z => absurd (by rw [e1300]; exact nI_le (by omega) (by omega)) z)
      refine kb_11_becomes_27 (hC := by rw [← hυ]; exact sp_11_laysStates P0) (k := fun r τ1 hr => ?_)
      obtain ⟨rfl, F1, W1⟩ := hr
      have P1 : rm_P τ1 p N := P0.same (F1.2 3 rfl)
      refine kb_11_becomes_41 (hC := sp_11_begins (T := pP_T p) (N := N) (c := false) (o := false) (al := fun t => bt (tg_al (pP_T p)) t) (by rw [F1.1 28 rfl, hυ, am_I_sI, if_neg (by simp), am_I_sI, if_pos ⟨rfl, rfl⟩]; rfl) (by rw [F1.1 29 rfl, hυ, am_I_sI, if_pos ⟨rfl, rfl⟩]; rfl) (fun t ht => by
        rw [F1.1 30 rfl, F0.1 30 rfl, h30]
        exact lf_m_bt hT (w := none) (fun t ht => by cases ht) t ht)) (k := fun r τ2 hr => ?_)
      obtain ⟨rfl, C2, F2⟩ := hr
      have F02 : mo_BF σ τ2 := (F0.tr (F1.wid (by rfl) (by rfl))).tr (F2.fm.wid (by rfl) (by rfl))
      have e3 : am_A τ2 16 3 = G := by rw [F2.2.1 3 rfl, F1.2 3 rfl]; exact u3
      exact kb_11_becomes_45 ⟨rfl, F02, fun k hk => by rw [e3]; exact hG k hk, (P1.same (F2.2.1 3 rfl)).2.1, W1.fm F2.fm rfl (fun k hk => by rcases hk with rfl | rfl | rfl | rfl | rfl | rfl | rfl <;> rfl), C2⟩
    | succ j ih =>
      intro i hi G hG
      refine kb_11_becomes_2 (kt := fun z => absurd z (by rw [e1300]; exact nI_ge (by omega) (by omega))) (kf := fun _ => ?_)
      refine kb_11_becomes_9 (hi0 := vp_in_nI (by omega) (by omega)) (hi1 := vp_in_nI (by omega) (by omega)) (k := ?_)
      rw [nI_clamp (show i < 2 ^ 31 by omega), nI_1, eL, e4, am_sA_sA]
      refine ih (i + 1) (by omega) _ (fun k hk => ?_)
      by_cases c : k = i
      · rw [c, upd_s]
      · rw [upd_n c]; exact hG k (by omega)
  refine am_enter rfl (by simp [Value.category]) (Nat.le_of_ble_eq_true rfl) (kb_11_becomes_0 (k := ?_))
  have := loop 1300 0 (by omega) (am_A σ 16 3) (fun k hk => absurd hk (Nat.not_lt_zero k))
  rw [am_sA_id, nI_0] at this
  exact this
/-! the class -/
theorem le_D.eo {τ : am_St} {y : lr_T} {care order : Bool} {tm : Int32} (h : le_D σ 6 y care order tm N) (hE : ∀ o, le_own 6 o → am_Eo o σ τ) : le_D τ 6 y care order tm N := by
  obtain ⟨c1, hS, hst, ht3, ht4, hne, hTr, hal, g9, g10, g11, g12, g13, g6, g7, g8⟩ := h
  have E6 := hE 6 (Or.inl rfl)
  have E8 := hE 8 (Or.inr (Or.inl rfl))
  have Et := hE (am_R σ 6 3) (Or.inr (Or.inr (Or.inr ht3)))
  have e3 := E6.2.2.2 3
  have e4 := E6.2.2.2 4
  refine ⟨c1, am_Sm.same hS (fun k _ => E8.1 k) (fun k _ => E8.2.1 k), hst, by rw [e3]; exact ht3, by rw [e4]; exact ht4, by rw [e3, e4]; exact hne, ?_, hal, by rw [E6.1]; exact g9, by rw [E6.1]; exact g10, by rw [E6.1]; exact g11, by rw [E6.1]; exact g12, by rw [E6.1]; exact g13, by rw [E6.1]; exact g6, by rw [E6.1]; exact g7, by rw [E6.1]; exact g8⟩
  rw [e3]
  obtain ⟨a1, a2, a3, a4⟩ := hTr
  exact ⟨a1, a2, by rw [Et.1]; exact a3, fun i hi f hf => by rw [Et.2.1]; exact a4 i hi f hf⟩
def cl_6 (σ : am_St) : Prop := le_tr 6 (am_R σ 6 3) ∧ le_tr 6 (am_R σ 6 4) ∧ am_R σ 6 3 ≠ am_R σ 6 4
def fr_B (σ τ : am_St) : Prop := (∀ k, am_I τ 0 k = am_I σ 0 k) ∧ (∀ k, k ≠ 13 → am_A τ 0 k = am_A σ 0 k) ∧ ∀ o, o = 1 ∨ o = 2 ∨ o = 3 → am_Eo o σ τ
theorem sp_10_beginAnew (h : cp_P σ p N) (h6 : cl_6 σ) (h7 : cl_7 σ) : am_C false ya_10_beginAnew (d + 4) [.ref (am_oid 0)] σ (fun r τ => r = none ∧ fr_B σ τ ∧ am_Wo τ N (pP_K p) (pP_T p) (pw_tb p) (pw_fl p N) (pw_nx p) ∧ cl_v τ (pP_nv p) (pP_ns p) (pP_nb p) (pP_lo p) (pP_wd p) N ∧ le_D τ 6 lr_0 false false (tg_al (pP_T p)) N ∧ cl_7 τ ∧ cl_ca τ N (pP_K p) (pP_T p) (pw_tb p) (pw_fl p N) (pw_nx p) ∧ cl_s τ N (pP_K p) (pw_tb p) (pw_fl p N) (pw_nx p) lr_0 ∧ tg_ok τ N (pP_K p) (pP_T p) (pw_tb p) (pw_fl p N) (pw_nx p)) := by
  have hT : pP_T p ≤ 16 := h.1.2.2.2.2
  have nown : ∀ o, o ≠ 6 → o ≠ 8 → o ≠ 5 → o ≠ 10 → o ≠ 11 → ¬ le_own 6 o := fun o a b c e f z => by
    rcases z with z | z | z | ⟨-, z | z⟩ | ⟨z, -⟩
    · exact a z
    · exact b z
    · exact c z
    · exact e z
    · exact f z
    · exact absurd z (by decide)
  refine am_enter rfl (by simp [Value.category]) (Nat.le_of_ble_eq_true rfl) ?_
  refine kb_10_beginAnew_0 (hC := sp_9_build h) (k := fun r τ1 hr => ?_)
  obtain ⟨rfl, F1, W1, V1⟩ := hr
  have rr : ∀ o k, am_R τ1 o k = am_R σ o k := fun o k => by unfold am_R; rw [F1.2.2]
  refine kb_10_beginAnew_11 (hC := sp_9_allTests W1) (k := fun r τ1' hr => ?_)
  obtain ⟨rfl, rfl⟩ := hr
  refine kb_10_beginAnew_24 (hC := sp_1_begin (N := N) (L := 6) (Or.inl rfl) (by rw [rr]; exact h6.1) (by rw [rr]; exact h6.2.1) (by rw [rr, rr]; exact h6.2.2) false false (tg_al (pP_T p))) (k := fun r τ2 hr => ?_)
  obtain ⟨rfl, D2, F2⟩ := hr
  refine kb_10_beginAnew_27 (k := ?_)
  obtain ⟨υ, hυ⟩ : ∃ υ, υ = am_sI (am_sI τ2 14 2 0) 15 1 0 := ⟨_, rfl⟩
  rw [← hυ]
  have e68 : (68 : Int32) = nI 68 := by decide
  have eL : ∀ G : Nat → Int32, am_A (am_sA υ 0 13 G) 0 13 = G := fun G => by rw [am_A_sA, if_pos ⟨rfl, rfl⟩]
  have loop : ∀ (j i : Nat), i + j = 68 → ∀ G : Nat → Int32, (∀ k, k < i → G k = 0) → am_T false ya_10_beginAnew (d + 4) (fun r τ => r = none ∧ fr_B σ τ ∧ am_Wo τ N (pP_K p) (pP_T p) (pw_tb p) (pw_fl p N) (pw_nx p) ∧ cl_v τ (pP_nv p) (pP_ns p) (pP_nb p) (pP_lo p) (pP_wd p) N ∧ le_D τ 6 lr_0 false false (tg_al (pP_T p)) N ∧ cl_7 τ ∧ cl_ca τ N (pP_K p) (pP_T p) (pw_tb p) (pw_fl p N) (pw_nx p) ∧ cl_s τ N (pP_K p) (pw_tb p) (pw_fl p N) (pw_nx p) lr_0 ∧ tg_ok τ N (pP_K p) (pP_T p) (pw_tb p) (pw_fl p N) (pw_nx p)) 45 [some (.ref (am_oid 0)), some (.int (nI i))] [] (am_sA υ 0 13 G) := by
    intro j
    induction j with
    | zero =>
      intro i hi G hG
      have : i = 68 := by omega
      subst this
      refine kb_10_beginAnew_45 (kt := fun _ => kb_10_beginAnew_64 ?_) (kf := fun z => absurd (by rw [e68]; exact nI_le (by omega) (by omega)) z)
      obtain ⟨φ, hφ⟩ : ∃ φ, φ = am_sA υ 0 13 G := ⟨_, rfl⟩
      rw [← hφ]
      -- objects that are as they were after begin
      have eo : ∀ o, o ≠ 0 → o ≠ 14 → o ≠ 15 → am_Eo o τ2 φ := fun o a b c => by
        refine ⟨fun k => ?_, fun k => ?_, ?_, fun k => ?_⟩
        · rw [hφ, hυ]; show am_I (am_sI (am_sI τ2 14 2 0) 15 1 0) o k = _; rw [am_I_sI, if_neg (fun z => c z.2), am_I_sI, if_neg (fun z => b z.2)]
        · rw [hφ, am_A_sA, if_neg (fun z => a z.2), hυ]; rfl
        · rw [hφ, hυ]; rfl
        · rw [hφ, hυ]; rfl
      have e4 := eo 4 (by decide) (by decide) (by decide)
      have Fo : ∀ o, ¬ le_own 6 o → am_Eo o τ1' τ2 := fun o ho => F2 o ho
      have f4 := Fo 4 (nown 4 (by decide) (by decide) (by decide) (by decide) (by decide))
      have f0 := Fo 0 (nown 0 (by decide) (by decide) (by decide) (by decide) (by decide))
      have f7 := Fo 7 (nown 7 (by decide) (by decide) (by decide) (by decide) (by decide))
      have e7 := eo 7 (by decide) (by decide) (by decide)
      refine ⟨rfl, ⟨fun k => ?_, fun k hk => ?_, fun o ho => ?_⟩, ?_, ?_, D2.eo (fun o ho => ?_), ?_, fun c o w hw => Or.inl ?_, Or.inl ?_, Or.inl ?_⟩
      · rw [hφ, hυ]
        show am_I (am_sI (am_sI τ2 14 2 0) 15 1 0) 0 k = _
        rw [am_I_sI, if_neg (by simp), am_I_sI, if_neg (by simp), f0.1, F1.1 0 k (by decide)]
      · rw [hφ, am_A_sA, if_neg (fun z => hk z.1), hυ]
        show am_A τ2 0 k = _
        rw [f0.2.1, F1.2.1 0 k (by decide)]
      · have n : o ≠ 0 ∧ o ≠ 14 ∧ o ≠ 15 ∧ o ≠ 4 ∧ o ≠ 6 ∧ o ≠ 8 ∧ o ≠ 5 ∧ o ≠ 10 ∧ o ≠ 11 := by omega
        exact ((F1.eo n.2.2.2.1).tr (Fo o (nown o n.2.2.2.2.1 n.2.2.2.2.2.1 n.2.2.2.2.2.2.1 n.2.2.2.2.2.2.2.1 n.2.2.2.2.2.2.2.2))).tr (eo o n.1 n.2.1 n.2.2.1)
      · exact (W1.same f4.1 f4.2.1).same e4.1 e4.2.1
      · obtain ⟨v0, v1, v2, v3, v4, v5⟩ := V1
        have i4 : ∀ k, am_I φ 4 k = am_I τ1' 4 k := fun k => (e4.1 k).trans (f4.1 k)
        have a4 : ∀ k, am_A φ 4 k = am_A τ1' 4 k := fun k => (e4.2.1 k).trans (f4.2.1 k)
        exact ⟨v0, by rw [i4]; exact v1, by rw [i4]; exact v2, by rw [i4]; exact v3, fun v hv => by rw [a4, a4]; exact v4 v hv, fun s hs v hv => by rw [a4]; exact v5 s hs v hv⟩
      · have n : o ≠ 0 ∧ o ≠ 14 ∧ o ≠ 15 := by
          rcases ho with z | z | z | ⟨-, z | z⟩ | ⟨z, -⟩
          · omega
          · omega
          · omega
          · omega
          · omega
          · exact absurd z (by decide)
        exact eo o n.1 n.2.1 n.2.2
      · have r7 : ∀ k, am_R φ 7 k = am_R σ 7 k := fun k => ((e7.2.2.2 k).trans (f7.2.2.2 k)).trans (rr 7 k)
        unfold cl_7
        rw [r7, r7]; exact h7
      · rw [hφ, eL]; exact hG _ (lf_way_lt hT hw)
      · rw [hφ, hυ]; show am_I (am_sI (am_sI τ2 14 2 0) 15 1 0) 14 2 = 0; rw [am_I_sI, if_neg (by simp), am_I_sI, if_pos ⟨rfl, rfl⟩]
      · rw [hφ, hυ]; show am_I (am_sI (am_sI τ2 14 2 0) 15 1 0) 15 1 = 0; rw [am_I_sI, if_pos ⟨rfl, rfl⟩]
    | succ j ih =>
      intro i hi G hG
      refine kb_10_beginAnew_45 (kt := fun z => absurd z (by rw [e68]; exact nI_ge (by omega) (by omega))) (kf := fun _ => ?_)
      refine kb_10_beginAnew_51 (hi0 := vp_in_nI (by omega) (by omega)) (k := ?_)
      rw [nI_clamp (show i < 2 ^ 31 by omega), nI_1, eL, am_sA_sA, show vp_nar .boolean 0 = 0 from by decide]
      refine ih (i + 1) (by omega) _ (fun k hk => ?_)
      by_cases c : k = i
      · rw [c, upd_s]
      · rw [upd_n c]; exact hG k (by omega)
  have := loop 68 0 (by omega) (am_A υ 0 13) (fun k hk => absurd hk (Nat.not_lt_zero k))
  rw [am_sA_id, nI_0] at this
  exact this
end ANEW
