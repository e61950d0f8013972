/-! Learner.askTeacher, Fitter.isUnsafe, Learner.doRound -/
section ROUND
variable {d L N K T n : Nat} {nd : Nat → Nat → Int32} {x : sm_T} {rd tm : Int32} {care order : Bool} {tb : Nat → Int32} {fl : Nat → Nat → Bool} {nx : Nat → Nat → Option Nat}
theorem vp_nar_bI (b : Bool) : vp_nar .boolean (am_bI b) = am_bI b := by cases b <;> decide
theorem am_oI_lt {order : Bool} {p : Nat → Bool} (hN : N ≤ 600) : (am_oI (-1) (te_fs order N p) < 0) = (te_fs order N p = none) := am_oI_neg (fun t h => (te_fs_lt h).1) hN _ am_neg1
theorem le_End.of {σ σ' : am_St} {r : sm_T × Int32 × Int32 × Int32 × Int32} {v : Option Value} {τ : am_St} (h : le_Fr L σ σ') (h' : le_End L σ' r n nd rd care order tm N v τ) : le_End L σ r n nd rd care order tm N v τ := ⟨h'.1, h'.2.1, h.tr h'.2.2⟩
theorem sp_1_askTeacher {σ : am_St} (h : le_C σ L x n nd 0 rd 0 (-2) (-2) care order tm N) (hW : am_Wo σ N K T tb fl nx) : am_C false ya_1_askTeacher (d + 3) [.ref (am_oid L)] σ (le_End L σ (te_ask N K fl nx (fun s => tr_hd n nd (tb s)) order x) n nd rd care order tm N) := by
  have h' := h
  obtain ⟨hL, hS, hst, ht3, -, -, hTr, hal, g9, g10, g11, g12, g13, g6, g7, g8⟩ := h'
  obtain ⟨c1, e0, e1, e2, c9, c0, c5⟩ := le_lk hL
  have hW' := hW
  obtain ⟨w1, w2, w3, w4, w5, w6, w7, w8⟩ := hW'
  have hLo : L ≠ L + 2 := by omega
  have hL4 : (4 : Nat) ≠ L := by omega
  have n3 := ht3.ne
  obtain ⟨held, hheld⟩ : ∃ held : Nat → Bool, held = fun s => tr_hd n nd (tb s) := ⟨_, rfl⟩
  rw [← hheld]
  generalize hQ : le_End L σ (te_ask N K fl nx held order x) n nd rd care order tm N = Q
  have k8 : am_k false (am_R σ L 3) = 8 := ht3.k
  -- behind the filling
  have fin : ∀ (f : Nat → Int32), (∀ s, s < N → f s = am_bI (held s)) → ∀ (a1 a2 a3 a4 : Option Value), am_T false ya_1_askTeacher (d + 3) Q 41 [some (.ref (am_oid L)), a1, a2, a3, a4] [] (am_sA σ L 5 f) := by
    intro f hf a1 a2 a3 a4
    obtain ⟨τ, hτ⟩ : ∃ τ, τ = am_sA σ L 5 f := ⟨_, rfl⟩
    rw [← hτ]
    have hfr : le_Fr L σ τ := le_fr_of (fun _ _ _ _ => by rw [hτ]; rfl) (fun o k _ z => by rw [hτ, am_A_sA, if_neg (fun y => z y.2)]) (by rw [hτ]; rfl)
    have hh : ∀ s, s < N → am_A τ L 5 s = am_bI (held s) := fun s hs => by rw [hτ, am_A_sA, if_pos ⟨rfl, rfl⟩]; exact hf s hs
    have hc : le_C τ L x n nd 0 rd 0 (-2) (-2) care order tm N := h.upd (hS.same (fun _ _ => by rw [hτ]; rfl) (fun k _ => by rw [hτ, am_A_sA, if_neg (fun y => hLo y.2.symm)])) hst (fun _ _ _ _ => by rw [hτ]; rfl) (fun o k _ z => by rw [hτ, am_A_sA, if_neg (fun y => z y.2)]) (fun _ _ => by rw [hτ]; rfl) (fun _ _ _ => by rw [hτ]; rfl) (by rw [hτ]; exact g9) (by rw [hτ]; exact g10) (by rw [hτ]; exact g11) (by rw [hτ]; exact g12) (by rw [hτ]; exact g13)
    have hW1 : am_Wo τ N K T tb fl nx := hfr.wo hL hW
    have ho : am_I τ L 7 = am_bI order := by rw [hτ]; exact g7
    refine kb_1_askTeacher_41 (hC := sp_1_firstLabelled (d := d + 1) (w := 0) hL hW1 ho hh (by decide) false) (k := fun r τ1 hr => ?_)
    obtain ⟨rfl, rfl⟩ := hr
    refine kb_1_askTeacher_47 (kt := fun z => ?_) (kf := fun z => ?_)
    · rw [am_oI_lt w1] at z
      refine kb_1_askTeacher_60 (hC := sp_1_firstLabelled (d := d + 1) (w := 1) hL hW1 ho hh (by decide) true) (k := fun r τ2 hr => ?_)
      obtain ⟨rfl, rfl⟩ := hr
      refine kb_1_askTeacher_66 (kt := fun y => ?_) (kf := fun y => ?_)
      · rw [am_oI_lt w1] at y
        -- the steps
        obtain ⟨p, hp⟩ : ∃ p : Nat → Bool, p = fun s => (if held s = true then te_lv nx held s K 0 else none).isSome := ⟨_, rfl⟩
        have loop : ∀ (j k : Nat), k + j = N → (am_fd (fun k => p (am_od order N k)) N 0 = am_fd (fun k => p (am_od order N k)) j k) → ∀ (b1 : Int32) (b3 b4 : Option Value), am_T false ya_1_askTeacher (d + 3) Q 81 [some (.ref (am_oid L)), some (.int b1), some (.int (nI k)), b3, b4] [] τ2 := by
          intro j
          induction j with
          | zero =>
            intro k hk hfd b1 b3 b4
            refine kb_1_askTeacher_81 (kt := fun _ => kb_1_askTeacher_124 (hq := ?_)) (kf := fun u => absurd ?_ u)
            · have hn : te_fs order N p = none := by unfold te_fs; rw [hfd]; rfl
              rw [← hQ]
              have eA : te_ask N K fl nx held order x = (x, 1, 0, -2, -2) := by
                unfold te_ask
                rw [z, y, ← hp, hn]
              rw [eA]
              refine ⟨rfl, hc.upd (hc.2.1.same (fun k _ => ?_) (fun k _ => rfl)) hst (fun o k _ u => ?_) (fun _ _ _ _ => rfl) (fun _ _ => rfl) (fun k u1 u2 => ?_) ?_ ?_ ?_ ?_ ?_, hfr.tr (le_fr_of (fun o k _ u => ?_) (fun _ _ _ _ => rfl) rfl)⟩
              · simp [am_I_sI]
              · simp [am_I_sI, u]
              · simp [am_I_sI, show k ≠ 9 by omega]
              · simp [am_I_sI]
              · simp [am_I_sI]; exact hc.2.2.2.2.2.2.2.2.2.1
              · simp [am_I_sI]; exact hc.2.2.2.2.2.2.2.2.2.2.1
              · simp [am_I_sI]; exact hc.2.2.2.2.2.2.2.2.2.2.2.1
              · simp [am_I_sI]; exact hc.2.2.2.2.2.2.2.2.2.2.2.2.1
              · simp [am_I_sI, u]
            · rw [e0, hW1.2.2.2.1]; exact nI_le (by omega) (by omega)
          | succ j ih =>
            intro k hk hfd b1 b3 b4
            have hk2 : k < N := by omega
            have hod := am_od_lt (order := order) hk2
            refine kb_1_askTeacher_81 (kt := fun u => absurd u ?_) (kf := fun _ => ?_)
            · rw [e0, hW1.2.2.2.1]; exact nI_ge hk2 (by omega)
            refine kb_1_askTeacher_92 (hC := sp_1_inOrder hL hW1 ho hk2) (k := fun r τ3 hr => ?_)
            obtain ⟨rfl, rfl⟩ := hr
            refine kb_1_askTeacher_97 (hC := sp_1_leavingTarget hL hW1 hh hod) (k := fun r τ4 hr => ?_)
            obtain ⟨rfl, rfl⟩ := hr
            have hlt : ∀ t, (if held (am_od order N k) = true then te_lv nx held (am_od order N k) K 0 else none) = some t → t < N ∧ held t = false := fun t ht => by
              split at ht
              · exact te_lv_lt (fun k hk t h => (w8 _ hod k hk).2 t h) K 0 (by omega) ht
              · cases ht
            refine kb_1_askTeacher_103 (kt := fun u => ?_) (kf := fun u => ?_)
            · rw [am_oI_neg (fun t ht => (hlt t ht).1) w1 _ am_neg1] at u
              refine kb_1_askTeacher_118 (k := ?_)
              rw [nI_1]
              refine ih (k + 1) (by omega) ?_ _ _ _
              rw [hfd]
              show (if p (am_od order N k) = true then _ else _) = _
              rw [if_neg (by rw [hp]; simp only [u]; simp)]
            · rw [am_oI_neg (fun t ht => (hlt t ht).1) w1 _ am_neg1] at u
              cases hx : (if held (am_od order N k) = true then te_lv nx held (am_od order N k) K 0 else none) with
              | none => exact absurd hx u
              | some t =>
                obtain ⟨ht1, ht2⟩ := hlt t hx
                have hhs : held (am_od order N k) = true := by
                  cases c : held (am_od order N k)
                  · rw [c] at hx; simp at hx
                  · rfl
                rw [if_pos hhs] at hx
                have hne : am_od order N k ≠ t := fun e => by rw [e, ht2] at hhs; cases hhs
                have hfs : te_fs order N p = some (am_od order N k) := by
                  unfold te_fs
                  rw [hfd]
                  have : am_fd (fun k => p (am_od order N k)) (j + 1) k = some k := by
                    show (if p (am_od order N k) = true then _ else _) = _
                    rw [if_pos (by rw [hp]; simp only [if_pos hhs, hx]; rfl)]
                  rw [this]; rfl
                refine kb_1_askTeacher_110 (hC := sp_1_bringPair (d := d + 1) hc w1 hod ht1 hne) (k := fun r τ5 hr => ?_)
                obtain ⟨rfl, hr2, hr3⟩ := hr
                refine kb_1_askTeacher_117 ?_
                rw [← hQ]
                have eA : te_ask N K fl nx held order x = (match te_pair x (am_od order N k) t with | some p => (p.1, 0, 3, nI p.2.1, nI p.2.2) | none => (x, 4, 0, -2, -2)) := by
                  unfold te_ask
                  rw [z, y, ← hp, hfs]
                  dsimp only
                  rw [hx]
                  rfl
                rw [eA]
                exact ⟨rfl, hr2, hfr.tr hr3⟩
        exact kb_1_askTeacher_79 (k := loop N 0 (by omega) rfl _ _ _)
      · rw [am_oI_lt w1] at y
        cases hx : te_fs order N (fun s => fl s 1 && (held s == true)) with
        | none => exact absurd hx y
        | some s =>
          refine kb_1_askTeacher_71 (hC := sp_1_bringPoint (d := d) (w := 2) hc w1 (te_fs_lt hx).1 (by decide) 2) (k := fun r τ5 hr => ?_)
          obtain ⟨rfl, hr2, hr3⟩ := hr
          refine kb_1_askTeacher_78 ?_
          rw [← hQ]
          have eA : te_ask N K fl nx held order x = (match te_tell x s 2 with | some p => (p.1, 0, 2, nI p.2, -2) | none => (x, 4, 0, -2, -2)) := by
            unfold te_ask
            rw [z, hx]
            rfl
          rw [eA]
          exact ⟨rfl, hr2, hfr.tr hr3⟩
    · rw [am_oI_lt w1] at z
      cases hx : te_fs order N (fun s => fl s 0 && (held s == false)) with
      | none => exact absurd hx z
      | some s =>
        refine kb_1_askTeacher_52 (hC := sp_1_bringPoint (d := d) (w := 1) hc w1 (te_fs_lt hx).1 (by decide) 1) (k := fun r τ5 hr => ?_)
        obtain ⟨rfl, hr2, hr3⟩ := hr
        refine kb_1_askTeacher_59 ?_
        rw [← hQ]
        have eA : te_ask N K fl nx held order x = (match te_tell x s 1 with | some p => (p.1, 0, 1, nI p.2, -2) | none => (x, 4, 0, -2, -2)) := by
          unfold te_ask
          rw [hx]
          rfl
        rw [eA]
        exact ⟨rfl, hr2, hfr.tr hr3⟩
  have fill : ∀ (j s : Nat), s + j = N → ∀ (f : Nat → Int32), (∀ z, z < s → f z = am_bI (held z)) → ∀ (a2 a3 a4 : Option Value), am_T false ya_1_askTeacher (d + 3) Q 2 [some (.ref (am_oid L)), some (.int (nI s)), a2, a3, a4] [] (am_sA σ L 5 f) := by
    intro j
    induction j with
    | zero =>
      intro s hs f hf a2 a3 a4
      have : s = N := by omega
      subst this
      refine kb_1_askTeacher_2 (kt := fun _ => fin f hf _ _ _ _) (kf := fun u => absurd ?_ u)
      show am_I σ (am_lk L 0) 5 ≤ _
      rw [e0, w4]; exact nI_le (Nat.le_refl _) (by omega)
    | succ j ih =>
      intro s hs f hf a2 a3 a4
      have hsN : s < N := by omega
      have v : vp_in (nI s) 600 := vp_in_nI (by omega) (by omega)
      have k8' : am_k false (am_R (am_sA σ L 5 f) L 3) = 8 := k8
      have hTr1 : am_Tr (am_sA σ L 5 f) (am_R σ L 3) n nd := hTr.same rfl (fun k => by rw [am_A_sA, if_neg (fun y => n3.1 y.2)])
      have eb : am_A (am_sA σ L 5 f) (am_lk L 0) 10 (nI s).toNatClampNeg = tb s := by rw [e0, am_A_sA, if_neg (fun y => hL4 y.2), nI_clamp (by omega)]; exact (w7 s hsN).1
      refine kb_1_askTeacher_2 (kt := fun u => absurd u ?_) (kf := fun _ => ?_)
      · show ¬ am_I σ (am_lk L 0) 5 ≤ _
        rw [e0, w4]; exact nI_ge hsN (by omega)
      refine kb_1_askTeacher_13 (hi0 := v) (hC := by rw [eb]; exact sp_8_accepts (d := d + 1) hTr1 hal) (k := fun r τ hr => ?_)
      obtain ⟨rfl, rfl⟩ := hr
      refine kb_1_askTeacher_34 (hi0 := v) (k := ?_)
      rw [nI_1, nI_clamp (by omega), am_sA_sA, am_A_sA, if_pos ⟨rfl, rfl⟩, vp_nar_bI]
      refine ih (s + 1) (by omega) _ (fun z hz => ?_) _ _ _
      by_cases c : z = s
      · subst c; rw [upd_s, hheld]
      · rw [upd_n c]; exact hf z (by omega)
  refine am_enter rfl (by simp [Value.category]) (Nat.le_of_ble_eq_true rfl) (kb_1_askTeacher_0 (k := ?_))
  have := fill N 0 (by omega) (am_A σ L 5) (fun z hz => absurd hz (Nat.not_lt_zero z)) none none none
  rw [am_sA_id] at this
  exact this
/-! Fitter.isUnsafe -/
def lr_us (P : Nat) (td : Nat → Nat) (g : Nat → Bool) : Bool := !(am_cn (fun i => am_bt 2 (nI (td i)) && g i) P == 0)
theorem sp_0_isUnsafe {o P q : Nat} {st td fs sn : Nat → Nat} {σ : am_St} (hS : am_Sm σ o P q st td fs sn) : am_C false ya_0_isUnsafe (d + 2) [.ref (am_oid 5), .ref (am_oid o)] σ (fun r τ => r = some (.int (am_bI (lr_us P td (am_clo q fs sn (am_tg td 1 P))))) ∧ ∃ qf : Nat → Int32, (∀ i, P ≤ i → am_clo q fs sn (am_tg td 1 P) i = false ∧ am_clo q sn fs (am_tg td 2 P) i = false) ∧ τ = lb_St σ o (am_clo q fs sn (am_tg td 1 P)) (am_clo q sn fs (am_tg td 2 P)) qf) := by
  have ho := hS.1
  have hP := hS.2.1
  have h4 := hS.2.2.2.1
  have h6 := hS.2.2.2.2.2.1
  have ho5 : o ≠ 5 := fun e => by rw [e] at ho; exact absurd ho (by decide)
  refine am_enter rfl (by simp [Value.category]) (Nat.le_of_ble_eq_true rfl) ?_
  refine kb_0_isUnsafe_0 (hC := sp_5_labelAll d o P q st td fs sn σ hS) (k := fun r τ hr => ?_)
  obtain ⟨rfl, g, bd, qf, hg, hb, hz, rfl⟩ := hr
  have eg := hg.eq
  have eb := hb.eq
  subst eg
  subst eb
  generalize am_clo q fs sn (am_tg td 1 P) = g at hz ⊢
  generalize am_clo q sn fs (am_tg td 2 P) = bd at hz ⊢
  generalize hQ : (fun (r : Option Value) (τ : am_St) => r = some (.int (am_bI (lr_us P td g))) ∧ ∃ qf : Nat → Int32, (∀ i, P ≤ i → g i = false ∧ bd i = false) ∧ τ = lb_St σ o g bd qf) = Q
  have loop : ∀ (j i : Nat), i + j = P → am_cn (fun i => am_bt 2 (nI (td i)) && g i) i = 0 → am_T false ya_0_isUnsafe (d + 2) Q 10 [some (.ref (am_oid 5)), some (.ref (am_oid o)), some (.int (nI i))] [] (lb_St σ o g bd qf) := by
    intro j
    induction j with
    | zero =>
      intro i hi h0
      have : i = P := by omega
      subst this
      refine kb_0_isUnsafe_10 (kt := fun _ => kb_0_isUnsafe_48 ?_) (kf := fun u => absurd ?_ u)
      · rw [← hQ]
        refine ⟨?_, qf, hz, rfl⟩
        unfold lr_us
        rw [h0]; rfl
      · show am_I σ o 0 ≤ _
        rw [h4]; exact nI_le (Nat.le_refl _) (by omega)
    | succ j ih =>
      intro i hi h0
      have hiP : i < P := by omega
      have v : vp_in (nI i) 200 := vp_in_nI (by omega) (by omega)
      have et : am_A (lb_St σ o g bd qf) o 3 (nI i).toNatClampNeg = nI (td i) := by rw [lb_St_A _ _ _ _ _ _ (by decide) (fun y => ho5 y.2), nI_clamp (by omega)]; exact (h6 i hiP).2.2.1
      have el : am_A (lb_St σ o g bd qf) 5 1 (nI i).toNatClampNeg = am_lb (g i) (bd i) := by rw [lb_St_L, nI_clamp (by omega)]; exact am_lbs_at (by omega)
      have nextp : (am_bt 2 (nI (td i)) && g i) = false → am_T false ya_0_isUnsafe (d + 2) Q 42 [some (.ref (am_oid 5)), some (.ref (am_oid o)), some (.int (nI i))] [] (lb_St σ o g bd qf) := by
        intro hf
        refine kb_0_isUnsafe_42 (k := ?_)
        rw [nI_1]
        refine ih (i + 1) (by omega) ?_
        show am_cn _ i + (if (am_bt 2 (nI (td i)) && g i) = true then 1 else 0) = 0
        rw [h0, hf]; rfl
      refine kb_0_isUnsafe_10 (kt := fun u => absurd u ?_) (kf := fun _ => ?_)
      · show ¬ am_I σ o 0 ≤ _
        rw [h4]; exact nI_ge hiP (by omega)
      refine kb_0_isUnsafe_18 (hi0 := v) (kt := fun u => ?_) (kf := fun u => ?_)
      · rw [et, am_bt_0] at u
        exact nextp (by rw [u]; rfl)
      · rw [et, am_bt_0] at u
        refine kb_0_isUnsafe_29 (hi0 := v) (kt := fun y => ?_) (kf := fun y => ?_)
        · rw [el, (am_lb_and _ _).2] at y
          exact nextp (by rw [y]; simp)
        · rw [el, (am_lb_and _ _).2] at y
          refine kb_0_isUnsafe_40 ?_
          rw [← hQ]
          refine ⟨?_, qf, hz, rfl⟩
          have hne : am_cn (fun i => am_bt 2 (nI (td i)) && g i) P ≠ 0 := fun e => by
            have := am_cn_zero e i hiP
            have u' : am_bt 2 (nI (td i)) = true := by simpa using u
            have y' : g i = true := by simpa using y
            simp [u', y'] at this
          have eu : lr_us P td g = true := by unfold lr_us; simpa using hne
          rw [eu]; rfl
  refine kb_0_isUnsafe_8 (k := ?_)
  have := loop P 0 (by omega) rfl
  rw [nI_0] at this
  exact this
end ROUND
