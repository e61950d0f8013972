/-! every call of the reference: its answer, the state behind it -/
section MOPS
variable {d : Nat} {σ τ : am_St} {s : st_X}
theorem ri.gc {y : lr_T} {c o : Bool} {is as : List Nat} (h : ri σ s) (F : mo_Fm is as σ τ) (hi : ([2, 14, 15, 17, 30] : List Nat).all (fun k => !is.contains k) = true) (ha : ([1, 3, 18, 19, 20, 21, 22, 23] : List Nat).all (fun k => !as.contains k) = true) (hC : mo_C τ y c o (sX_al s) (sX_T s) (sX_N s)) : ri τ (sX_p s, sX_N s, y, c, o, sX_l s, sX_t s, sX_f s, sX_g s) := by
  have hi' : ∀ k, k ∈ ([2, 14, 15, 17, 30] : List Nat) → is.contains k = false := fun k hk => by
    have := List.all_eq_true.mp hi k hk
    cases e : is.contains k with
    | false => rfl
    | true => rw [e] at this; exact absurd this (by decide)
  have ha' : ∀ k, k ∈ ([1, 3, 18, 19, 20, 21, 22, 23] : List Nat) → as.contains k = false := fun k hk => by
    have := List.all_eq_true.mp ha k hk
    cases e : as.contains k with
    | false => rfl
    | true => rw [e] at this; exact absurd this (by decide)
  obtain ⟨⟨a1, a2, a3, a4, a5⟩, a6, a7, a8⟩ := h
  exact ⟨⟨(F.1 2 (hi' 2 (by decide))).trans a1, by rw [F.2 1 (ha' 1 (by decide))]; exact a2, (F.1 14 (hi' 14 (by decide))).trans a3, (F.1 15 (hi' 15 (by decide))).trans a4, (F.1 30 (hi' 30 (by decide))).trans a5⟩, a6.fm F (ha' 3 (by decide)), a7.fm F (hi' 17 (by decide)) (fun k hk => ha' k (by rcases hk with rfl | rfl | rfl | rfl | rfl | rfl | rfl <;> decide)), hC⟩
theorem ri.af {is as : List Nat} (h : ri σ s) (F : mo_Fm is as σ τ) (hi : ([2, 14, 15, 17, 28, 29, 30] : List Nat).all (fun k => !is.contains k) = true) (ha : ([1, 3, 18, 19, 20, 21, 22, 23, 25, 27] : List Nat).all (fun k => !as.contains k) = true) : ri τ s := by
  have hi' : ∀ k, k ∈ ([2, 14, 15, 17, 28, 29, 30] : List Nat) → is.contains k = false := fun k hk => by
    have := List.all_eq_true.mp hi k hk
    cases e : is.contains k with
    | false => rfl
    | true => rw [e] at this; exact absurd this (by decide)
  have ha' : ∀ k, k ∈ ([1, 3, 18, 19, 20, 21, 22, 23, 25, 27] : List Nat) → as.contains k = false := fun k hk => by
    have := List.all_eq_true.mp ha k hk
    cases e : as.contains k with
    | false => rfl
    | true => rw [e] at this; exact absurd this (by decide)
  obtain ⟨⟨a1, a2, a3, a4, a5⟩, a6, a7, a8⟩ := h
  exact ⟨⟨(F.1 2 (hi' 2 (by decide))).trans a1, by rw [F.2 1 (ha' 1 (by decide))]; exact a2, (F.1 14 (hi' 14 (by decide))).trans a3, (F.1 15 (hi' 15 (by decide))).trans a4, (F.1 30 (hi' 30 (by decide))).trans a5⟩, a6.fm F (ha' 3 (by decide)), a7.fm F (hi' 17 (by decide)) (fun k hk => ha' k (by rcases hk with rfl | rfl | rfl | rfl | rfl | rfl | rfl <;> decide)), a8.fm F ⟨hi' 28 (by decide), hi' 29 (by decide), hi' 30 (by decide)⟩ ⟨ha' 25 (by decide), ha' 27 (by decide)⟩⟩
theorem mo_Fr.m {is as : List Nat} (h : mo_Fr is as σ τ) : mo_Fm is as σ τ := ⟨h.1, h.2.1⟩
theorem ri.s0 (h : ri σ s) : ri (am_sI σ 16 0 0) s := h.af (mo_Fm.rf.sI (is := [0]) (as := []) (by rfl) _) rfl rfl
theorem om_feed (h : ri σ s) (hs : sX_ok s) (x1 x2 x3 x4 x5 : Int32) : am_C true ya_11_feed (d + 25) [.ref (am_oid 16), .int x1, .int x2, .int x3, .int x4, .int x5] σ (fun r τ => r = some (.int (v_feed s x1 x2 x3 x4 x5).1) ∧ ri τ (v_feed s x1 x2 x3 x4 x5).2) := by
  refine (sp_11_feed h.1.1 hs.2.1 h.1.2.1 x1 x2 x3 x4 x5).mono (fun r τ hr => ?_)
  obtain ⟨rfl, F, i1, i2⟩ := hr
  obtain ⟨⟨a1, a2, a3, a4, a5⟩, a6, a7, a8⟩ := h
  exact ⟨rfl, ⟨i1, i2, (F.1 14 rfl).trans a3, (F.1 15 rfl).trans a4, (F.1 30 rfl).trans a5⟩, a6.fm F rfl, a7.fm F rfl (fun k hk => by rcases hk with rfl | rfl | rfl | rfl | rfl | rfl | rfl <;> rfl), a8.fm F ⟨rfl, rfl, rfl⟩ ⟨rfl, rfl⟩⟩
theorem om_text (h : ri σ s) (hs : sX_ok s) (x : Int32) : am_C true ya_11_text (d + 25) [.ref (am_oid 16), .int x] σ (fun r τ => r = some (.int (v_text s x).1) ∧ ri τ (v_text s x).2) := sp_11_text (d := d + 11) h hs x
theorem om_fault (h : ri σ s) (x : Int32) : am_C true ya_11_fault (d + 25) [.ref (am_oid 16), .int x] σ (fun r τ => r = some (.int (if x = 0 then sX_f s else if x = 1 then sX_g s else -1)) ∧ ri τ s) :=
  (sp_11_fault h.1.2.2.1 h.1.2.2.2.1 x).mono (fun r τ hr => ⟨hr.2, hr.1 ▸ h.s0⟩)
theorem om_value (h : ri σ s) (x1 x2 : Int32) : am_C true ya_11_value (d + 25) [.ref (am_oid 16), .int x1, .int x2] σ (fun r τ => r = some (.int (v_value (sX_N s) (pP_nv (sX_p s)) (pP_lo (sX_p s)) (pP_wd (sX_p s)) x1 x2)) ∧ am_I τ 16 0 = v_thr (sX_N s) (pP_nv (sX_p s)) x1 x2 ∧ ri τ s) :=
  (sp_11_value (d := d + 22) h.2.2.1 h.2.1 x1 x2).mono (fun r τ hr => ⟨hr.1, hr.2.1, h.af hr.2.2 rfl rfl⟩)
theorem om_thrown (h : ri σ s) {x : Int32} (hx : am_I σ 16 0 = x) : am_C true ya_11_thrown (d + 25) [.ref (am_oid 16)] σ (fun r τ => r = some (.int x) ∧ ri τ s) :=
  am_enter rfl (by simp [Value.category]) (Nat.le_of_ble_eq_true rfl) (kb_11_thrown_0 ⟨by rw [hx], h⟩)
theorem om_stateOf (h : ri σ s) (x1 x2 x3 : Int32) : am_C true ya_11_stateOf (d + 25) [.ref (am_oid 16), .int x1, .int x2, .int x3] σ (fun r τ => r = some (.int (am_oI (-1) (wl_s (pP_lo (sX_p s)) (pP_wd (sX_p s)) (wl_3 x1 x2 x3) (pP_nv (sX_p s))))) ∧ ri τ s) :=
  (sp_11_stateOf (d := d + 23) h.2.1 x1 x2 x3).mono (fun r τ hr => ⟨hr.2, hr.1 ▸ h.s0⟩)
theorem om_is (h : ri σ s) (x1 x2 : Int32) : am_C true ya_11_is (d + 25) [.ref (am_oid 16), .int x1, .int x2] σ (fun r τ => r = some (.int (v_is (sX_N s) (sX_K s) (sX_tb s) (sX_fl s) (sX_nx s) (sX_y s) x1 x2)) ∧ ri τ s) :=
  (sp_11_is (d := d + 23) h.2.2.1 h.2.2.2 x1 x2).mono (fun r τ hr => ⟨hr.2, hr.1 ▸ h.s0⟩)
theorem om_next (h : ri σ s) (x1 x2 : Int32) : am_C true ya_11_next (d + 25) [.ref (am_oid 16), .int x1, .int x2] σ (fun r τ => r = some (.int (v_next (sX_N s) (sX_K s) (sX_nx s) x1 x2)) ∧ ri τ s) :=
  (sp_11_next (d := d + 24) h.2.2.1 x1 x2).mono (fun r τ hr => ⟨hr.2, hr.1 ▸ h.s0⟩)
theorem om_holds (h : ri σ s) (x1 x2 : Int32) : am_C true ya_11_holds (d + 25) [.ref (am_oid 16), .int x1, .int x2] σ (fun r τ => r = some (.int (v_holds (sX_N s) (sX_T s) (sX_tb s) x1 x2)) ∧ ri τ s) :=
  (sp_11_holds (d := d + 24) h.2.2.1 x1 x2).mono (fun r τ hr => ⟨hr.2, hr.1 ▸ h.s0⟩)
theorem om_many (h : ri σ s) (x : Int32) : am_C true ya_11_many (d + 25) [.ref (am_oid 16), .int x] σ (fun r τ => r = some (.int (v_many (sX_N s) (sX_tb s) (sX_fl s) (sX_y s) x)) ∧ ri τ s) :=
  (sp_11_many (d := d + 23) h.2.2.1 h.2.2.2.2.1 x).mono (fun r τ hr => ⟨hr.2, hr.1 ▸ h.s0⟩)
theorem om_ways (h : ri σ s) (x1 x2 : Int32) : am_C true ya_11_ways (d + 25) [.ref (am_oid 16), .int x1, .int x2] σ (fun r τ => r = some (.int (v_ways (sX_c s) (sX_o s) x1 x2).2.2) ∧ ri τ (sX_sw s (v_ways (sX_c s) (sX_o s) x1 x2).1 (v_ways (sX_c s) (sX_o s) x1 x2).2.1)) :=
  (sp_11_ways h.2.2.2 x1 x2).mono (fun r τ hr => ⟨hr.1, h.gc hr.2.2 rfl rfl hr.2.1⟩)
theorem om_learn (h : ri σ s) (x : Int32) : am_C true ya_11_learn (d + 25) [.ref (am_oid 16), .int x] σ (fun r τ => r = some (.int (v_learn (sX_N s) (sX_K s) (sX_T s) (sX_tb s) (sX_fl s) (sX_nx s) (sX_al s) (sX_c s) (sX_o s) (sX_y s) x).2) ∧ ri τ (sX_sy s (v_learn (sX_N s) (sX_K s) (sX_T s) (sX_tb s) (sX_fl s) (sX_nx s) (sX_al s) (sX_c s) (sX_o s) (sX_y s) x).1)) :=
  (sp_11_learn (d := d + 1) h.2.2.1 h.2.2.2 x).mono (fun r τ hr => ⟨hr.1, h.gc hr.2.2 rfl rfl hr.2.1⟩)
theorem om_ended (h : ri σ s) : am_C true ya_11_ended (d + 25) [.ref (am_oid 16)] σ (fun r τ => r = some (.int (sX_y s).2.2.1) ∧ ri τ s) :=
  (sp_11_ended h.2.2.2).mono (fun r τ hr => ⟨hr.2, hr.1 ▸ h.s0⟩)
theorem om_brought (h : ri σ s) (x : Int32) : am_C true ya_11_brought (d + 25) [.ref (am_oid 16), .int x] σ (fun r τ => r = some (.int (v_brought (sX_y s) x)) ∧ ri τ s) :=
  (sp_11_brought h.2.2.2 x).mono (fun r τ hr => ⟨hr.2, hr.1 ▸ h.s0⟩)
theorem om_point (h : ri σ s) (x1 x2 : Int32) : am_C true ya_11_point (d + 25) [.ref (am_oid 16), .int x1, .int x2] σ (fun r τ => r = some (.int (v_point (sX_y s) x1 x2)) ∧ ri τ s) :=
  (sp_11_point (d := d + 23) h.2.2.2 x1 x2).mono (fun r τ hr => ⟨hr.1, h.af hr.2 rfl rfl⟩)
theorem om_pair (h : ri σ s) (x1 x2 : Int32) : am_C true ya_11_pair (d + 25) [.ref (am_oid 16), .int x1, .int x2] σ (fun r τ => r = some (.int (v_pair (sX_y s) x1 x2)) ∧ ri τ s) :=
  (sp_11_pair h.2.2.2 x1 x2).mono (fun r τ hr => ⟨hr.2, hr.1 ▸ h.s0⟩)
theorem om_node (h : ri σ s) (x1 x2 : Int32) : am_C true ya_11_node (d + 25) [.ref (am_oid 16), .int x1, .int x2] σ (fun r τ => r = some (.int (v_node (sX_N s) (sX_tb s) (sX_y s) x1 x2)) ∧ ri τ s) :=
  (sp_11_node (d := d + 23) h.2.2.1 h.2.2.2 x1 x2).mono (fun r τ hr => ⟨hr.2, hr.1 ▸ h.s0⟩)
theorem om_cost (h : ri σ s) (x : Int32) : am_C true ya_11_cost (d + 25) [.ref (am_oid 16), .int x] σ (fun r τ => r = some (.int (v_cost (sX_T s) (sX_tb s) (sX_y s) x)) ∧ ri τ s) :=
  (sp_11_cost (d := d + 23) h.2.2.1 h.2.2.2 x).mono (fun r τ hr => ⟨hr.1, h.af hr.2 rfl rfl⟩)
theorem om_run (h : ri σ s) (x1 x2 : Int32) : am_C true ya_11_run (d + 25) [.ref (am_oid 16), .int x1, .int x2] σ (fun r τ => r = some (.int (rn_all (sX_N s) (sX_K s) (sX_fl s) (sX_nx s) (sX_y s) x1 x2).2) ∧ ri τ (sX_sy s (rn_all (sX_N s) (sX_K s) (sX_fl s) (sX_nx s) (sX_y s) x1 x2).1)) :=
  (sp_11_run (d := d + 22) h.2.2.2 h.2.2.1 x1 x2).mono (fun r τ hr => ⟨hr.1, h.gc hr.2.2 rfl rfl hr.2.1⟩)
theorem om_trace (h : ri σ s) (hs : sX_ok s) (x : Int32) : am_C true ya_11_trace (d + 25) [.ref (am_oid 16), .int x] σ (fun r τ => r = some (.int (v_trace (sX_y s) x)) ∧ ri τ s) :=
  (sp_11_trace (d := d + 24) h.2.2.2 hs.2.2.2.2.1 x).mono (fun r τ hr => ⟨hr.1, h.af hr.2.m rfl rfl⟩)
theorem om_rows (h : ri σ s) (hs : sX_ok s) (x : Int32) (b : Bool) : am_C true ya_11_rows (d + 25) [.ref (am_oid 16), .int x, .int (am_bI b)] σ (fun r τ => r = some (.int (v_rows s x b)) ∧ ri τ s) :=
  (sp_11_rows (d := d + 6) h.2.2.1 h.2.2.2.2.1 h.2.2.2.2.2.1 hs.2.2.2.1 x b).mono (fun r τ hr => ⟨hr.1, h.af hr.2.m rfl rfl⟩)
theorem om_row (h : ri σ s) (hs : sX_ok s) (x1 x2 : Int32) (b : Bool) : am_C true ya_11_row (d + 25) [.ref (am_oid 16), .int x1, .int x2, .int (am_bI b)] σ (fun r τ => r = some (.int (v_row s x1 x2 b)) ∧ ri τ s) :=
  (sp_11_row (d := d + 6) h.2.2.1 h.2.2.2.2.1 h.2.2.2.2.2.1 hs.2.2.2.1 x1 x2 b).mono (fun r τ hr => ⟨hr.1, h.af hr.2.m rfl rfl⟩)
theorem om_shortMany (h : ri σ s) (hs : sX_ok s) : am_C true ya_11_shortMany (d + 25) [.ref (am_oid 16)] σ (fun r τ => r = some (.int (v_shortMany s)) ∧ ri τ s) :=
  (sp_11_shortMany (d := d + 6) h.2.2.1 h.2.2.2.2.1 h.2.2.2.2.2.1 hs.2.2.2.1).mono (fun r τ hr => ⟨hr.1, h.af hr.2.m rfl rfl⟩)
theorem om_together (h : ri σ s) (x : Int32) : am_C true ya_11_together (d + 25) [.ref (am_oid 16), .int x] σ (fun r τ => r = some (.int (v_together s x)) ∧ ri τ s) :=
  (sp_11_together (d := d + 23) h.2.2.1 x).mono (fun r τ hr => ⟨hr.1, h.af hr.2.m rfl rfl⟩)
theorem om_togetherProves (h : ri σ s) : am_C true ya_11_togetherProves (d + 25) [.ref (am_oid 16)] σ (fun r τ => r = some (.int (v_togetherProves s)) ∧ ri τ s) :=
  (sp_11_togetherProves (d := d + 23) h.2.2.1).mono (fun r τ hr => ⟨hr.1, h.af hr.2.m rfl rfl⟩)
theorem om_bySteps (h : ri σ s) : am_C true ya_11_bySteps (d + 25) [.ref (am_oid 16)] σ (fun r τ => r = some (.int (bs_fin (sX_N s) (sX_K s) (sX_fl s) (sX_nx s))) ∧ ri τ s) :=
  (sp_11_bySteps (d := d + 24) h.2.2.1).mono (fun r τ hr => ⟨hr.1, h.af hr.2.m rfl rfl⟩)
theorem om_ifLearned (h : ri σ s) (x1 x2 x3 x4 : Int32) : am_C true ya_11_ifLearned (d + 25) [.ref (am_oid 16), .int x1, .int x2, .int x3, .int x4] σ (fun r τ => r = some (.int (v_if (sX_N s) (sX_K s) (sX_T s) (sX_tb s) (sX_fl s) (sX_nx s) x1 x2 x3 x4)) ∧ ri τ s) :=
  (sp_11_ifLearned h.2.2.2 h.1.2.2.2.2 h.2.2.1 x1 x2 x3 x4).mono (fun r τ hr => ⟨hr.1, h.gc hr.2.2 rfl rfl hr.2.1⟩)
theorem om_needed (h : ri σ s) (x1 x2 : Int32) : am_C true ya_11_needed (d + 25) [.ref (am_oid 16), .int x1, .int x2] σ (fun r τ => r = some (.int (v_needed (sX_N s) (sX_K s) (sX_T s) (sX_tb s) (sX_fl s) (sX_nx s) x1 x2)) ∧ ri τ s) :=
  (sp_11_needed h.2.2.2 h.1.2.2.2.2 h.2.2.1 x1 x2).mono (fun r τ hr => ⟨hr.1, h.gc hr.2.2 rfl rfl hr.2.1⟩)
theorem om_count (h : ri σ s) (x : Int32) : am_C true ya_11_count (d + 25) [.ref (am_oid 16), .int x] σ (fun r τ => r = some (.int (v_count (pP_nv (sX_p s)) (pP_ns (sX_p s)) (pP_nb (sX_p s)) (sX_K s) (sX_T s) (sX_l s) (sX_y s) (sX_c s) (sX_o s) x)) ∧ ri τ s) :=
  (sp_11_count h.2.2.1 h.2.2.2 h.2.1.2.1 h.2.1.2.2.1 h.2.1.2.2.2.1 h.1.1 x).mono (fun r τ hr => ⟨hr.2, hr.1 ▸ h.s0⟩)
/-! what holds of every state goes on to hold -/
theorem ok_learn (hs : sX_ok s) (x : Int32) : sX_ok (sX_sy s (v_learn (sX_N s) (sX_K s) (sX_T s) (sX_tb s) (sX_fl s) (sX_nx s) (sX_al s) (sX_c s) (sX_o s) (sX_y s) x).1) := ⟨hs.1, hs.2.1, hs.2.2.1, hs.2.2.2.learn hs.1.2.2.2.2 x⟩
theorem ok_run (hs : sX_ok s) (x1 x2 : Int32) : sX_ok (sX_sy s (rn_all (sX_N s) (sX_K s) (sX_fl s) (sX_nx s) (sX_y s) x1 x2).1) := ⟨hs.1, hs.2.1, hs.2.2.1, hs.2.2.2.run x1 x2⟩
end MOPS
