/-! every call of the class: its answer, the state behind it -/
abbrev sX_sy (s : st_X) (y : lr_T) : st_X := (sX_p s, sX_N s, y, sX_c s, sX_o s, sX_l s, sX_t s, sX_f s, sX_g s)
abbrev sX_sw (s : st_X) (c o : Bool) : st_X := (sX_p s, sX_N s, sX_y s, c, o, sX_l s, sX_t s, sX_f s, sX_g s)
abbrev sX_tp (s : st_X) (l : Nat) (t : Nat → Int32) : st_X := (sX_p s, sX_N s, sX_y s, sX_c s, sX_o s, l, t, sX_f s, sX_g s)
abbrev sX_K (s : st_X) : Nat := pP_K (sX_p s)
abbrev sX_T (s : st_X) : Nat := pP_T (sX_p s)
abbrev sX_tb (s : st_X) : Nat → Int32 := pw_tb (sX_p s)
noncomputable abbrev sX_fl (s : st_X) : Nat → Nat → Bool := pw_fl (sX_p s) (sX_N s)
abbrev sX_nx (s : st_X) : Nat → Nat → Option Nat := pw_nx (sX_p s)
abbrev sX_al (s : st_X) : Nat → Bool := fun t => bt (tg_al (pP_T (sX_p s))) t
section COPS
variable {d : Nat} {σ τ : am_St} {s : st_X}
/-- all but the learner, the tape, the shortener, the proofs and the trials is as it was -/
theorem ci.eo {s' : st_X} (h : ci σ s) (hp : sX_p s' = sX_p s ∧ sX_N s' = sX_N s) (h0 : (am_I τ 0 1 = nI (sX_l s') ∧ (∀ i, i < sX_l s' → am_A τ 0 0 i &&& 255 = sX_t s' i) ∧ am_I τ 0 4 = sX_f s' ∧ am_I τ 0 5 = sX_g s')) (h4I : ∀ k, am_I τ 4 k = am_I σ 4 k) (h4A : ∀ k, k ≠ 12 → am_A τ 4 k = am_A σ 4 k) (hD : le_D τ 6 (sX_y s') (sX_c s') (sX_o s') (tg_al (sX_T s)) (sX_N s)) (h7 : cl_7 τ) (hca : cl_ca τ (sX_N s) (sX_K s) (sX_T s) (sX_tb s) (sX_fl s) (sX_nx s)) (hs : cl_s τ (sX_N s) (sX_K s) (sX_tb s) (sX_fl s) (sX_nx s) (sX_y s')) (ht : tg_ok τ (sX_N s) (sX_K s) (sX_T s) (sX_tb s) (sX_fl s) (sX_nx s)) : ci τ s' := by
  obtain ⟨-, a5, a6, -⟩ := h
  obtain ⟨v1, v2, v3, v4, v5, v6⟩ := a5
  obtain ⟨b1, b2, b3, b4, b5, b6, b7, b8⟩ := a6
  unfold ci
  rw [hp.1, hp.2]
  refine ⟨h0, ⟨v1, (h4I 0).trans v2, (h4I 1).trans v3, (h4I 2).trans v4, by rw [h4A 6 (by decide), h4A 7 (by decide)]; exact v5, by rw [h4A 8 (by decide)]; exact v6⟩, ⟨b1, b2, b3, (h4I 5).trans b4, (h4I 3).trans b5, (h4I 4).trans b6, by rw [h4A 10 (by decide), h4A 9 (by decide)]; exact b7, by rw [h4A 11 (by decide)]; exact b8⟩, hD, h7, hca, hs, ht⟩
theorem ci.le {y : lr_T} {c o : Bool} (h : ci σ s) (hD : le_D τ 6 y c o (tg_al (sX_T s)) (sX_N s)) (F : le_Fr 6 σ τ) (hy : (sX_y s).2.2.1 ≠ 0 → y = sX_y s) : ci τ (sX_p s, sX_N s, y, c, o, sX_l s, sX_t s, sX_f s, sX_g s) := by
  have nown : ∀ o, o ≠ 6 → o ≠ 8 → o ≠ 5 → o ≠ 10 → o ≠ 11 → ¬ le_own 6 o := fun o a b c e f z => by
    rcases z with z | z | z | ⟨-, z | z⟩ | ⟨z, -⟩
    · exact a z
    · exact b z
    · exact c z
    · exact e z
    · exact f z
    · exact absurd z (by decide)
  have E : ∀ o, o ≠ 6 → o ≠ 8 → o ≠ 5 → o ≠ 10 → o ≠ 11 → am_Eo o σ τ := fun o a b c e f => F o (nown o a b c e f)
  have E0 := E 0 (by decide) (by decide) (by decide) (by decide) (by decide)
  have E4 := E 4 (by decide) (by decide) (by decide) (by decide) (by decide)
  have E7 := E 7 (by decide) (by decide) (by decide) (by decide) (by decide)
  have E14 := E 14 (by decide) (by decide) (by decide) (by decide) (by decide)
  have E15 := E 15 (by decide) (by decide) (by decide) (by decide) (by decide)
  have h' := h
  obtain ⟨⟨a1, a2, a3, a4⟩, a5, a6, a7, a8, a9, a10, a11⟩ := h'
  refine h.eo ⟨rfl, rfl⟩ ⟨(E0.1 1).trans a1, by rw [E0.2.1]; exact a2, (E0.1 4).trans a3, (E0.1 5).trans a4⟩ E4.1 (fun k _ => E4.2.1 k) hD ?_ ?_ (a10.eo E14 hy) ?_
  · unfold cl_7 at a8 ⊢
    rw [E7.2.2.2 3, E7.2.2.2 4]; exact a8
  · intro c o w hw
    rw [E0.2.1, E0.2.1]; exact a9 c o w hw
  · unfold tg_ok at a11 ⊢
    rw [E15.1, E15.1, E15.1]; exact a11
theorem ci.on {t : Nat} (h : ci σ s) (F : am_On t σ τ) (ht : t = 14 ∨ t = 15) (hs : cl_s τ (sX_N s) (sX_K s) (sX_tb s) (sX_fl s) (sX_nx s) (sX_y s)) (hk : tg_ok τ (sX_N s) (sX_K s) (sX_T s) (sX_tb s) (sX_fl s) (sX_nx s)) : ci τ s := by
  have E : ∀ o, o < 14 → am_Eo o σ τ := fun o ho => F.eo (by omega)
  have E0 := E 0 (by decide)
  have E4 := E 4 (by decide)
  have E7 := E 7 (by decide)
  have h' := h
  obtain ⟨⟨a1, a2, a3, a4⟩, a5, a6, a7, a8, a9, a10, a11⟩ := h'
  refine h.eo ⟨rfl, rfl⟩ ⟨(E0.1 1).trans a1, by rw [E0.2.1]; exact a2, (E0.1 4).trans a3, (E0.1 5).trans a4⟩ E4.1 (fun k _ => E4.2.1 k) (a7.eo (fun o ho => E o ?_)) ?_ ?_ hs hk
  · rcases ho with z | z | z | ⟨-, z | z⟩ | ⟨z, -⟩
    · omega
    · omega
    · omega
    · omega
    · omega
    · exact absurd z (by decide)
  · unfold cl_7 at a8 ⊢
    rw [E7.2.2.2 3, E7.2.2.2 4]; exact a8
  · intro c o w hw
    rw [E0.2.1, E0.2.1]; exact a9 c o w hw
theorem tg_ok.eo {N K T : Nat} {tb : Nat → Int32} {fl : Nat → Nat → Bool} {nx : Nat → Nat → Option Nat} (h : tg_ok σ N K T tb fl nx) (E : am_Eo 15 σ τ) : tg_ok τ N K T tb fl nx := by
  unfold tg_ok at h ⊢
  rw [E.1, E.1, E.1]; exact h
theorem ci.ft (h : ci σ s) (F : fr_T σ τ) (h7 : cl_7 τ) (hca : cl_ca τ (sX_N s) (sX_K s) (sX_T s) (sX_tb s) (sX_fl s) (sX_nx s)) : ci τ s := by
  have nown : ∀ o, o ≠ 7 → o ≠ 9 → o ≠ 5 → o ≠ 12 → o ≠ 13 → ¬ le_own 7 o := fun o a b c e f z => by
    rcases z with z | z | z | ⟨z, -⟩ | ⟨-, z | z⟩
    · exact a z
    · exact b z
    · exact c z
    · exact absurd z (by decide)
    · exact e z
    · exact f z
  have E : ∀ o, o ≠ 0 → o ≠ 7 → o ≠ 9 → o ≠ 5 → o ≠ 12 → o ≠ 13 → am_Eo o σ τ := fun o z a b c e f => F.1 o (nown o a b c e f) z
  have E4 := E 4 (by decide) (by decide) (by decide) (by decide) (by decide) (by decide)
  have h' := h
  obtain ⟨⟨a1, a2, a3, a4⟩, a5, a6, a7, a8, a9, a10, a11⟩ := h'
  refine h.eo ⟨rfl, rfl⟩ ⟨(F.2.1 1).trans a1, by rw [F.2.2 0 (by decide) (by decide)]; exact a2, (F.2.1 4).trans a3, (F.2.1 5).trans a4⟩ E4.1 (fun k _ => E4.2.1 k) ?_ h7 hca (a10.eo (E 14 (by decide) (by decide) (by decide) (by decide) (by decide) (by decide)) (fun _ => rfl)) (a11.eo (E 15 (by decide) (by decide) (by decide) (by decide) (by decide) (by decide)))
  /- the learner; its fitter is free -/
  obtain ⟨l1, hS, hst, ht3, ht4, hne, hTr, hal, g9, g10, g11, g12, g13, g6, g7, g8⟩ := a7
  have E6 := E 6 (by decide) (by decide) (by decide) (by decide) (by decide) (by decide)
  have E8 := E 8 (by decide) (by decide) (by decide) (by decide) (by decide) (by decide)
  have Et : am_Eo (am_R σ 6 3) σ τ := by
    rcases ht3 with ⟨-, z | z⟩ | ⟨z, -⟩
    · rw [z]; exact E 10 (by decide) (by decide) (by decide) (by decide) (by decide) (by decide)
    · rw [z]; exact E 11 (by decide) (by decide) (by decide) (by decide) (by decide) (by decide)
    · exact absurd z (by decide)
  have e3 := E6.2.2.2 3
  have e4 := E6.2.2.2 4
  refine ⟨l1, am_Sm.same hS (fun k _ => E8.1 k) (fun k _ => E8.2.1 k), hst, by rw [e3]; exact ht3, by rw [e4]; exact ht4, by rw [e3, e4]; exact hne, ?_, hal, by rw [E6.1]; exact g9, by rw [E6.1]; exact g10, by rw [E6.1]; exact g11, by rw [E6.1]; exact g12, by rw [E6.1]; exact g13, by rw [E6.1]; exact g6, by rw [E6.1]; exact g7, by rw [E6.1]; exact g8⟩
  rw [e3]
  obtain ⟨q1, q2, q3, q4⟩ := hTr
  exact ⟨q1, q2, by rw [Et.1]; exact q3, fun i hi f hf => by rw [Et.2.1]; exact q4 i hi f hf⟩
theorem fd_b_n (x : Int32) (k : Nat) : ∃ c, c < 256 ∧ fd_b x k = nI c := by
  unfold fd_b
  obtain ⟨j, hj, e⟩ := vp_in_of (pk_andIn (x >>> (nI (24 - 8 * (k % 4)) &&& 31)) (m := 255) 8 (by decide) (by decide)) (by decide)
  exact ⟨j, hj, e⟩
def v_feed (s : st_X) (x1 x2 x3 x4 x5 : Int32) : Int32 × st_X := (fd_r (sX_l s), sX_tp s (fd_n (sX_l s)) (fd_tp (sX_t s) (sX_l s) x1 x2 x3 x4 x5))
theorem tc_n {tp : Nat → Int32} {i c : Nat} (hc : c < 256) (h : tp i = nI c) : tp i = nI (tc_ tp i) := by
  unfold tc_
  rw [h, nI_clamp (by omega), Nat.mod_eq_of_lt hc]
theorem v_feed_ok (hs : sX_ok s) (x1 x2 x3 x4 x5 : Int32) : sX_ok (v_feed s x1 x2 x3 x4 x5).2 := by
  obtain ⟨c1, c2, c3, c4⟩ := hs
  refine ⟨c1, ?_, fun i hi => ?_, c4⟩
  · show fd_n (sX_l s) ≤ 900
    unfold fd_n
    split <;> omega
  · show fd_tp (sX_t s) (sX_l s) x1 x2 x3 x4 x5 i = nI (tc_ (fd_tp (sX_t s) (sX_l s) x1 x2 x3 x4 x5) i)
    have hi' : i < fd_n (sX_l s) := hi
    have : ∃ c, c < 256 ∧ fd_tp (sX_t s) (sX_l s) x1 x2 x3 x4 x5 i = nI c := by
      unfold fd_tp
      unfold fd_n at hi'
      split
      · rename_i h
        rw [if_pos h] at hi'
        unfold fd_t
        split
        · rename_i h2
          exact ⟨_, tc_lt _ _, c3 i h2⟩
        · exact fd_b_n _ _
      · rename_i h
        rw [if_neg h] at hi'
        exact ⟨_, tc_lt _ _, c3 i hi'⟩
    obtain ⟨c, hc, e⟩ := this
    exact tc_n hc e
theorem oc_feed (h : ci σ s) (hs : sX_ok s) (x1 x2 x3 x4 x5 : Int32) : am_C false ya_10_feed (d + 7) [.ref (am_oid 0), .int x1, .int x2, .int x3, .int x4, .int x5] σ (fun r τ => r = some (.int (v_feed s x1 x2 x3 x4 x5).1) ∧ ci τ (v_feed s x1 x2 x3 x4 x5).2) := by
  refine (sp_10_feed (d := d + 6) h.1.1 hs.2.1 h.1.2.1 x1 x2 x3 x4 x5).mono (fun r τ hr => ?_)
  obtain ⟨rfl, ⟨F1, F2, F3⟩, i1, i2⟩ := hr
  have h' := h
  obtain ⟨⟨a1, a2, a3, a4⟩, a5, a6, a7, a8, a9, a10, a11⟩ := h'
  have E4 := F3 4 (by decide)
  have E7 := F3 7 (by decide)
  refine ⟨rfl, h.eo ⟨rfl, rfl⟩ ⟨i1, i2, (F1 4 (by decide)).trans a3, (F1 5 (by decide)).trans a4⟩ E4.1 (fun k _ => E4.2.1 k) (a7.eo (fun o ho => F3 o ?_)) ?_ ?_ (a10.eo (F3 14 (by decide)) (fun _ => rfl)) (a11.eo (F3 15 (by decide)))⟩
  · rcases ho with z | z | z | ⟨-, z | z⟩ | ⟨z, -⟩
    · omega
    · omega
    · omega
    · omega
    · omega
    · exact absurd z (by decide)
  · unfold cl_7 at a8 ⊢
    rw [E7.2.2.2 3, E7.2.2.2 4]; exact a8
  · intro c o w hw
    rw [F2 13 (by decide), F2 12 (by decide)]; exact a9 c o w hw
theorem oc_fault (h : ci σ s) (x : Int32) : am_C false ya_10_fault (d + 7) [.ref (am_oid 0), .int x] σ (fun r τ => r = some (.int (if x = 0 then sX_f s else if x = 1 then sX_g s else -1)) ∧ ci τ s) :=
  (sp_10_fault h.1.2.2.1 h.1.2.2.2 x).mono (fun r τ hr => ⟨hr.2, hr.1 ▸ h⟩)
theorem oc_stateOf (h : ci σ s) (x1 x2 x3 : Int32) : am_C false ya_10_stateOf (d + 7) [.ref (am_oid 0), .int x1, .int x2, .int x3] σ (fun r τ => r = some (.int (am_oI (-1) (wl_s (pP_lo (sX_p s)) (pP_wd (sX_p s)) (wl_3 x1 x2 x3) (pP_nv (sX_p s))))) ∧ ci τ s) := by
  refine (sp_10_stateOf (d := d + 5) h.2.1 x1 x2 x3).mono (fun r τ hr => ⟨hr.1, ?_⟩)
  obtain ⟨-, F, rfl⟩ := hr
  have h' := h
  obtain ⟨⟨a1, a2, a3, a4⟩, a5, a6, a7, a8, a9, a10, a11⟩ := h'
  have O : am_On 4 σ (am_sA σ 4 12 F) := am_On.rf.sA _ _
  have A0 : ∀ k, am_A (am_sA σ 4 12 F) 0 k = am_A σ 0 k := fun k => O.2.1 0 k (by decide)
  refine h.eo ⟨rfl, rfl⟩ ⟨a1, by rw [A0]; exact a2, a3, a4⟩ (fun _ => rfl) (fun k hk => by rw [am_A_sA, if_neg (fun z => hk z.1)]) (a7.eo (fun o ho => O.eo ?_)) a8 ?_ (a10.eo (O.eo (by decide)) (fun _ => rfl)) a11
  · rcases ho with z | z | z | ⟨-, z | z⟩ | ⟨z, -⟩
    · omega
    · omega
    · omega
    · omega
    · omega
    · exact absurd z (by decide)
  · intro c o w hw
    rw [A0, A0]; exact a9 c o w hw
theorem oc_is (h : ci σ s) (x1 x2 : Int32) : am_C false ya_10_is (d + 7) [.ref (am_oid 0), .int x1, .int x2] σ (fun r τ => r = some (.int (v_is (sX_N s) (sX_K s) (sX_tb s) (sX_fl s) (sX_nx s) (sX_y s) x1 x2)) ∧ ci τ s) :=
  (sp_10_is (d := d + 5) h.2.2.1 h.2.2.2.1 x1 x2).mono (fun r τ hr => ⟨hr.2, hr.1 ▸ h⟩)
theorem oc_next (h : ci σ s) (x1 x2 : Int32) : am_C false ya_10_next (d + 7) [.ref (am_oid 0), .int x1, .int x2] σ (fun r τ => r = some (.int (v_next (sX_N s) (sX_K s) (sX_nx s) x1 x2)) ∧ ci τ s) :=
  (sp_10_next (d := d + 6) h.2.2.1 x1 x2).mono (fun r τ hr => ⟨hr.2, hr.1 ▸ h⟩)
theorem oc_holds (h : ci σ s) (x1 x2 : Int32) : am_C false ya_10_holds (d + 7) [.ref (am_oid 0), .int x1, .int x2] σ (fun r τ => r = some (.int (v_holds (sX_N s) (sX_T s) (sX_tb s) x1 x2)) ∧ ci τ s) :=
  (sp_10_holds (d := d + 6) h.2.2.1 x1 x2).mono (fun r τ hr => ⟨hr.2, hr.1 ▸ h⟩)
theorem oc_many (h : ci σ s) (x : Int32) : am_C false ya_10_many (d + 7) [.ref (am_oid 0), .int x] σ (fun r τ => r = some (.int (v_many (sX_N s) (sX_tb s) (sX_fl s) (sX_y s) x)) ∧ ci τ s) :=
  (sp_10_many (d := d + 4) h.2.2.1 h.2.2.2.1 x).mono (fun r τ hr => ⟨hr.2, hr.1 ▸ h⟩)
theorem oc_ways (h : ci σ s) (x1 x2 : Int32) : am_C false ya_10_ways (d + 7) [.ref (am_oid 0), .int x1, .int x2] σ (fun r τ => r = some (.int (v_ways (sX_c s) (sX_o s) x1 x2).2.2) ∧ ci τ (sX_sw s (v_ways (sX_c s) (sX_o s) x1 x2).1 (v_ways (sX_c s) (sX_o s) x1 x2).2.1)) :=
  (sp_10_ways (d := d + 6) h.2.2.2.1 x1 x2).mono (fun r τ hr => ⟨hr.1, h.le hr.2.1 hr.2.2 (fun _ => rfl)⟩)
theorem oc_learn (h : ci σ s) (x : Int32) : am_C false ya_10_learn (d + 7) [.ref (am_oid 0), .int x] σ (fun r τ => r = some (.int (v_learn (sX_N s) (sX_K s) (sX_T s) (sX_tb s) (sX_fl s) (sX_nx s) (sX_al s) (sX_c s) (sX_o s) (sX_y s) x).2) ∧ ci τ (sX_sy s (v_learn (sX_N s) (sX_K s) (sX_T s) (sX_tb s) (sX_fl s) (sX_nx s) (sX_al s) (sX_c s) (sX_o s) (sX_y s) x).1)) :=
  (sp_10_learn (d := d + 1) h.2.2.1 h.2.2.2.1 x).mono (fun r τ hr => ⟨hr.1, h.le hr.2.1 hr.2.2 (fun z => v_learn_e z x)⟩)
theorem oc_ended (h : ci σ s) : am_C false ya_10_ended (d + 7) [.ref (am_oid 0)] σ (fun r τ => r = some (.int (sX_y s).2.2.1) ∧ ci τ s) :=
  (sp_10_ended h.2.2.2.1).mono (fun r τ hr => ⟨hr.2, hr.1 ▸ h⟩)
theorem oc_brought (h : ci σ s) (x : Int32) : am_C false ya_10_brought (d + 7) [.ref (am_oid 0), .int x] σ (fun r τ => r = some (.int (v_brought (sX_y s) x)) ∧ ci τ s) :=
  (sp_10_brought h.2.2.2.1 x).mono (fun r τ hr => ⟨hr.2, hr.1 ▸ h⟩)
theorem oc_point (h : ci σ s) (x1 x2 : Int32) : am_C false ya_10_point (d + 7) [.ref (am_oid 0), .int x1, .int x2] σ (fun r τ => r = some (.int (v_point (sX_y s) x1 x2)) ∧ ci τ s) :=
  (sp_10_point (d := d + 4) h.2.2.2.1 x1 x2).mono (fun r τ hr => ⟨hr.1, h.le hr.2.1 hr.2.2 (fun _ => rfl)⟩)
theorem oc_pair (h : ci σ s) (x1 x2 : Int32) : am_C false ya_10_pair (d + 7) [.ref (am_oid 0), .int x1, .int x2] σ (fun r τ => r = some (.int (v_pair (sX_y s) x1 x2)) ∧ ci τ s) :=
  (sp_10_pair h.2.2.2.1 x1 x2).mono (fun r τ hr => ⟨hr.2, hr.1 ▸ h⟩)
theorem oc_node (h : ci σ s) (x1 x2 : Int32) : am_C false ya_10_node (d + 7) [.ref (am_oid 0), .int x1, .int x2] σ (fun r τ => r = some (.int (v_node (sX_N s) (sX_tb s) (sX_y s) x1 x2)) ∧ ci τ s) :=
  (sp_10_node (d := d + 4) h.2.2.1 h.2.2.2.1 x1 x2).mono (fun r τ hr => ⟨hr.2, hr.1 ▸ h⟩)
theorem oc_cost (h : ci σ s) (x : Int32) : am_C false ya_10_cost (d + 7) [.ref (am_oid 0), .int x] σ (fun r τ => r = some (.int (v_cost (sX_T s) (sX_tb s) (sX_y s) x)) ∧ ci τ s) :=
  (sp_10_cost (d := d + 4) h.2.2.1 h.2.2.2.1 x).mono (fun r τ hr => ⟨hr.1, h.le hr.2.1 hr.2.2 (fun _ => rfl)⟩)
theorem oc_run (h : ci σ s) (x1 x2 : Int32) : am_C false ya_10_run (d + 7) [.ref (am_oid 0), .int x1, .int x2] σ (fun r τ => r = some (.int (rn_all (sX_N s) (sX_K s) (sX_fl s) (sX_nx s) (sX_y s) x1 x2).2) ∧ ci τ (sX_sy s (rn_all (sX_N s) (sX_K s) (sX_fl s) (sX_nx s) (sX_y s) x1 x2).1)) :=
  (sp_10_run (d := d + 4) h.2.2.1 h.2.2.2.1 x1 x2).mono (fun r τ hr => ⟨hr.1, h.le hr.2.1 hr.2.2 (fun z => rn_all_e z x1 x2)⟩)
noncomputable def v_trace (y : lr_T) (x : Int32) : Int32 := if y.2.2.1 = 2 ∧ 0 ≤ x then tc_fin y.1.1 y.1.2.1 y.1.2.2.2.1 y.1.2.2.2.2.1 y.1.2.2.2.2.2 (ds_f y.1.1 y.1.2.1 (am_tg y.1.2.2.2.1 2 y.1.1) y.1.2.2.2.2.1 y.1.2.2.2.2.2) x else -1
theorem oc_trace (h : ci σ s) (x : Int32) : am_C false ya_10_trace (d + 7) [.ref (am_oid 0), .int x] σ (fun r τ => r = some (.int (v_trace (sX_y s) x)) ∧ ci τ s) :=
  (sp_10_trace (d := d + 5) h.2.2.2.1 x).mono (fun r τ hr => ⟨hr.1, h.le hr.2.1 hr.2.2 (fun _ => rfl)⟩)
noncomputable def v_rows (s : st_X) (x : Int32) (b : Bool) : Int32 := rq_rows (sX_y s).2.1.1 (sX_y s).2.2.1 (rq_L (sX_N s) (sX_K s) (sX_tb s) (sX_fl s) (sX_nx s) (tr_rw (sX_y s).2.1.2 17 [] 0) b) x b
noncomputable def v_row (s : st_X) (x1 x2 : Int32) (b : Bool) : Int32 := rq_row (sX_y s).2.1.1 (sX_y s).2.2.1 (rq_L (sX_N s) (sX_K s) (sX_tb s) (sX_fl s) (sX_nx s) (tr_rw (sX_y s).2.1.2 17 [] 0) b) x1 x2 b
noncomputable def v_shortMany (s : st_X) : Int32 := if rq_can (sX_y s).2.1.1 (sX_y s).2.2.1 true = true then nI (sw_n (sX_N s) (sX_K s) (sX_tb s) (sX_fl s) (sX_nx s) (tr_rw (sX_y s).2.1.2 17 [] 0)) else -2
theorem oc_rows (h : ci σ s) (hs : sX_ok s) (x : Int32) (b : Bool) : am_C false ya_10_rows (d + 7) [.ref (am_oid 0), .int x, .int (am_bI b)] σ (fun r τ => r = some (.int (v_rows s x b)) ∧ ci τ s) :=
  (sp_10_rows (d := d + 2) h.2.2.1 h.2.2.2.1 hs.2.2.2 h.2.2.2.2.2.2.1 x b).mono (fun r τ hr => ⟨hr.1, h.on hr.2.1 (Or.inl rfl) hr.2.2 (h.2.2.2.2.2.2.2.eo (hr.2.1.eo (by decide)))⟩)
theorem oc_row (h : ci σ s) (hs : sX_ok s) (x1 x2 : Int32) (b : Bool) : am_C false ya_10_row (d + 7) [.ref (am_oid 0), .int x1, .int x2, .int (am_bI b)] σ (fun r τ => r = some (.int (v_row s x1 x2 b)) ∧ ci τ s) :=
  (sp_10_row (d := d + 2) h.2.2.1 h.2.2.2.1 hs.2.2.2 h.2.2.2.2.2.2.1 x1 x2 b).mono (fun r τ hr => ⟨hr.1, h.on hr.2.1 (Or.inl rfl) hr.2.2 (h.2.2.2.2.2.2.2.eo (hr.2.1.eo (by decide)))⟩)
theorem oc_shortMany (h : ci σ s) (hs : sX_ok s) : am_C false ya_10_shortMany (d + 7) [.ref (am_oid 0)] σ (fun r τ => r = some (.int (v_shortMany s)) ∧ ci τ s) :=
  (sp_10_shortMany (d := d + 2) h.2.2.1 h.2.2.2.1 hs.2.2.2 h.2.2.2.2.2.2.1).mono (fun r τ hr => ⟨hr.1, h.on hr.2.1 (Or.inl rfl) hr.2.2 (h.2.2.2.2.2.2.2.eo (hr.2.1.eo (by decide)))⟩)
noncomputable def v_together (s : st_X) (x : Int32) : Int32 := if x < 0 ∨ ¬ x ≤ 1 then -1 else if x = 1 then (tg_fin (sX_N s) (sX_K s) (sX_T s) (sX_tb s) (sX_fl s) (sX_nx s)).1 else (tg_fin (sX_N s) (sX_K s) (sX_T s) (sX_tb s) (sX_fl s) (sX_nx s)).2
noncomputable def v_togetherProves (s : st_X) : Int32 := am_bI (!tg_bd (sX_N s) (sX_tb s) (sX_fl s) (tg_fin (sX_N s) (sX_K s) (sX_T s) (sX_tb s) (sX_fl s) (sX_nx s)))
theorem oc_together (h : ci σ s) (x : Int32) : am_C false ya_10_together (d + 7) [.ref (am_oid 0), .int x] σ (fun r τ => r = some (.int (v_together s x)) ∧ ci τ s) :=
  (sp_10_together (d := d + 4) h.2.2.1 h.2.2.2.2.2.2.2 x).mono (fun r τ hr => ⟨hr.1, h.on hr.2.1 (Or.inr rfl) (h.2.2.2.2.2.2.1.eo (hr.2.1.eo (by decide)) (fun _ => rfl)) hr.2.2⟩)
theorem oc_togetherProves (h : ci σ s) : am_C false ya_10_togetherProves (d + 7) [.ref (am_oid 0)] σ (fun r τ => r = some (.int (v_togetherProves s)) ∧ ci τ s) :=
  (sp_10_togetherProves (d := d + 4) h.2.2.1 h.2.2.2.2.2.2.2).mono (fun r τ hr => ⟨hr.1, h.on hr.2.1 (Or.inr rfl) (h.2.2.2.2.2.2.1.eo (hr.2.1.eo (by decide)) (fun _ => rfl)) hr.2.2⟩)
theorem oc_bySteps (h : ci σ s) : am_C false ya_10_bySteps (d + 7) [.ref (am_oid 0)] σ (fun r τ => r = some (.int (bs_fin (sX_N s) (sX_K s) (sX_fl s) (sX_nx s))) ∧ ci τ s) :=
  (sp_10_bySteps (d := d + 4) h.2.2.1 h.2.2.2.2.2.2.2).mono (fun r τ hr => ⟨hr.1, h.on hr.2.1 (Or.inr rfl) (h.2.2.2.2.2.2.1.eo (hr.2.1.eo (by decide)) (fun _ => rfl)) hr.2.2⟩)
theorem oc_ifLearned (h : ci σ s) (x1 x2 x3 x4 : Int32) : am_C false ya_10_ifLearned (d + 7) [.ref (am_oid 0), .int x1, .int x2, .int x3, .int x4] σ (fun r τ => r = some (.int (v_if (sX_N s) (sX_K s) (sX_T s) (sX_tb s) (sX_fl s) (sX_nx s) x1 x2 x3 x4)) ∧ ci τ s) :=
  (sp_10_ifLearned h.2.2.1 h.2.2.2.2.1 h.2.2.2.2.2.1 x1 x2 x3 x4).mono (fun r τ hr => ⟨hr.1, h.ft hr.2.1 hr.2.2.1 hr.2.2.2⟩)
theorem oc_needed (h : ci σ s) (x1 x2 : Int32) : am_C false ya_10_needed (d + 7) [.ref (am_oid 0), .int x1, .int x2] σ (fun r τ => r = some (.int (v_needed (sX_N s) (sX_K s) (sX_T s) (sX_tb s) (sX_fl s) (sX_nx s) x1 x2)) ∧ ci τ s) :=
  (sp_10_needed h.2.2.1 h.2.2.2.2.1 h.2.2.2.2.2.1 x1 x2).mono (fun r τ hr => ⟨hr.1, h.ft hr.2.1 hr.2.2.1 hr.2.2.2⟩)
theorem oc_count (h : ci σ s) (x : Int32) : am_C false ya_10_count (d + 7) [.ref (am_oid 0), .int x] σ (fun r τ => r = some (.int (v_count (pP_nv (sX_p s)) (pP_ns (sX_p s)) (pP_nb (sX_p s)) (sX_K s) (sX_T s) (sX_l s) (sX_y s) (sX_c s) (sX_o s) x)) ∧ ci τ s) :=
  (sp_10_count h.2.2.1 h.2.2.2.1 h.2.1.2.1 h.2.1.2.2.1 h.2.1.2.2.2.1 h.1.1 x).mono (fun r τ hr => ⟨hr.2, hr.1 ▸ h⟩)
end COPS
