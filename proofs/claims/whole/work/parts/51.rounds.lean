/-! a round of learning, as a value; Learner.doRound, doRounds, begin -/
abbrev lr_T : Type := sm_T × (Nat × (Nat → Nat → Int32)) × Int32 × Int32 × Int32 × Int32 × Int32
noncomputable def lr_g (x : sm_T) : Nat → Bool := am_clo x.2.1 x.2.2.2.2.1 x.2.2.2.2.2 (am_tg x.2.2.2.1 1 x.1)
noncomputable def lr_b (x : sm_T) : Nat → Bool := am_clo x.2.1 x.2.2.2.2.2 x.2.2.2.2.1 (am_tg x.2.2.2.1 2 x.1)
noncomputable def lr_fit (T : Nat) (tb : Nat → Int32) (al : Nat → Bool) (care : Bool) (x : sm_T) : Option ft_Sg := ft_F x.1 x.2.1 T x.2.2.2.2.1 x.2.2.2.2.2 (fun i t => bt (tb (x.2.2.1 i)) t) al care 17 (ft_all x.1) none true (lr_g x, lr_b x, 0, fun _ _ => 0)
noncomputable def lr_rd (N K T : Nat) (tb : Nat → Int32) (fl : Nat → Nat → Bool) (nx : Nat → Nat → Option Nat) (al : Nat → Bool) (care order : Bool) (y : lr_T) : lr_T :=
  if lr_us y.1.1 y.1.2.2.2.1 (lr_g y.1) = true then (y.1, y.2.1, 2, y.2.2.2.1 + 1, 0, -2, -2)
  else match lr_fit T tb al care y.1 with
    | none => (y.1, y.2.1, 3, y.2.2.2.1 + 1, 0, -2, -2)
    | some s => ((te_ask N K fl nx (fun z => tr_hd s.2.2.1 s.2.2.2 (tb z)) order y.1).1, (s.2.2.1, s.2.2.2), (te_ask N K fl nx (fun z => tr_hd s.2.2.1 s.2.2.2 (tb z)) order y.1).2.1, y.2.2.2.1 + 1, (te_ask N K fl nx (fun z => tr_hd s.2.2.1 s.2.2.2 (tb z)) order y.1).2.2.1, (te_ask N K fl nx (fun z => tr_hd s.2.2.1 s.2.2.2 (tb z)) order y.1).2.2.2.1, (te_ask N K fl nx (fun z => tr_hd s.2.2.1 s.2.2.2 (tb z)) order y.1).2.2.2.2)
def le_D (σ : am_St) (L : Nat) (y : lr_T) (care order : Bool) (tm : Int32) (N : Nat) : Prop := le_C σ L y.1 y.2.1.1 y.2.1.2 y.2.2.1 y.2.2.2.1 y.2.2.2.2.1 y.2.2.2.2.2.1 y.2.2.2.2.2.2 care order tm N
/-- the samples have changed, and ints of L, the tree hasn't -/
theorem le_C.upd2 {σ τ : am_St} {L : Nat} {x x' : sm_T} {n : Nat} {nd : Nat → Nat → Int32} {en rd b0 b1 b2 en' rd' b0' b1' b2' : Int32} {care order : Bool} {tm : Int32} {N : Nat} (h : le_C σ L x n nd en rd b0 b1 b2 care order tm N) (hS : am_SmT τ (L + 2) x') (hst : ∀ i, i < x'.1 → x'.2.2.1 i < N)
    (hI : am_I τ (am_R σ L 3) 0 = am_I σ (am_R σ L 3) 0) (hA : ∀ k, am_A τ (am_R σ L 3) k = am_A σ (am_R σ L 3) k) (hR : ∀ o k, am_R τ o k = am_R σ o k) (h6 : ∀ k, 6 ≤ k → k < 9 → am_I τ L k = am_I σ L k) (g9 : am_I τ L 9 = en') (g10 : am_I τ L 10 = rd') (g11 : am_I τ L 11 = b0') (g12 : am_I τ L 12 = b1') (g13 : am_I τ L 13 = b2') : le_C τ L x' n nd en' rd' b0' b1' b2' care order tm N := by
  obtain ⟨c1, c2, c3, c4, c5, c6, c7, c8, -, -, -, -, -, c14, c15, c16⟩ := h
  refine ⟨c1, hS, hst, by rw [hR]; exact c4, by rw [hR]; exact c5, by rw [hR, hR]; exact c6, ?_, c8, g9, g10, g11, g12, g13, by rw [h6 6 (by decide) (by decide)]; exact c14, by rw [h6 7 (by decide) (by decide)]; exact c15, by rw [h6 8 (by decide) (by decide)]; exact c16⟩
  rw [hR]
  exact c7.same hI hA
section DOR
variable {d L N K T : Nat} {tm : Int32} {care order : Bool} {tb : Nat → Int32} {fl : Nat → Nat → Bool} {nx : Nat → Nat → Option Nat}
theorem sp_1_doRound {y : lr_T} {σ : am_St} (h : le_D σ L y care order tm N) (he : y.2.2.1 = 0) (hW : am_Wo σ N K T tb fl nx) : am_C false ya_1_doRound (d + 4) [.ref (am_oid L)] σ (fun r τ => r = none ∧ le_D τ L (lr_rd N K T tb fl nx (fun t => bt tm t) care order y) care order tm N ∧ le_Fr L σ τ) := by
  obtain ⟨x, ⟨n, nd⟩, en, rd, b0, b1, b2⟩ := y
  dsimp only at he
  subst he
  have h' : le_C σ L x n nd 0 rd b0 b1 b2 care order tm N := h
  clear h
  have hS : am_Sm σ (L + 2) x.1 x.2.1 x.2.2.1 x.2.2.2.1 x.2.2.2.2.1 x.2.2.2.2.2 := h'.2.1
  obtain ⟨hL, -, hst, ht3, ht4, hne, hTr, hal, g9, g10, g11, g12, g13, g6, g7, g8⟩ := id h'
  obtain ⟨c1, e0, e1, e2, c9, c0, c5⟩ := le_lk hL
  have hLo : L ≠ L + 2 := by omega
  have hL5 : L ≠ 5 := by omega
  have n3 := ht3.ne
  have n4 := ht4.ne
  generalize hQ : (fun (r : Option Value) (τ : am_St) => r = none ∧ le_D τ L (lr_rd N K T tb fl nx (fun t => bt tm t) care order (x, (n, nd), 0, rd, b0, b1, b2)) care order tm N ∧ le_Fr L σ τ) = Q
  refine am_enter rfl (by simp [Value.category]) (Nat.le_of_ble_eq_true rfl) ?_
  refine kb_1_doRound_0 (hC := sp_1_bring (d := d + 3) hL) (k := fun r σ1 hr => ?_)
  obtain ⟨rfl, hσ1⟩ := hr
  rw [g10] at hσ1
  have i1 : ∀ o k, o ≠ L → am_I σ1 o k = am_I σ o k := fun o k z => by rw [hσ1]; simp [am_I_sI, z]
  have a1 : ∀ o k, am_A σ1 o k = am_A σ o k := fun o k => by rw [hσ1]; rfl
  have r1 : σ1.2.2 = σ.2.2 := by rw [hσ1]; rfl
  have l6 : ∀ k, k < 10 → am_I σ1 L k = am_I σ L k := fun k hk => by rw [hσ1]; simp [am_I_sI, show k ≠ 10 by omega, show k ≠ 11 by omega, show k ≠ 12 by omega, show k ≠ 13 by omega]
  have l10 : am_I σ1 L 10 = rd + 1 := by rw [hσ1]; simp [am_I_sI]
  have l11 : am_I σ1 L 11 = 0 := by rw [hσ1]; simp [am_I_sI]
  have l12 : am_I σ1 L 12 = -2 := by rw [hσ1]; simp [am_I_sI]
  have l13 : am_I σ1 L 13 = -2 := by rw [hσ1]; simp [am_I_sI]
  have hS1 : am_Sm σ1 (L + 2) x.1 x.2.1 x.2.2.1 x.2.2.2.1 x.2.2.2.2.1 x.2.2.2.2.2 := hS.same (fun k _ => i1 _ k (by omega)) (fun k _ => a1 _ k)
  have hC1 : am_C false ya_0_isUnsafe (d + 3) [.ref (am_oid (am_lk L 1)), .ref (am_oid (am_lk L 2))] σ1 (fun r τ => r = some (.int (am_bI (lr_us x.1 x.2.2.2.1 (lr_g x)))) ∧ ∃ qf : Nat → Int32, (∀ i, x.1 ≤ i → lr_g x i = false ∧ lr_b x i = false) ∧ τ = lb_St σ1 (L + 2) (lr_g x) (lr_b x) qf) := by
    rw [e1, e2]
    exact sp_0_isUnsafe (d := d + 1) hS1
  refine kb_1_doRound_19 (hC := hC1) (k := fun r σ2 hr => ?_)
  obtain ⟨rfl, qf, hz, hσ2⟩ := hr
  have i2 : ∀ o k, am_I σ2 o k = am_I σ1 o k := fun o k => by rw [hσ2]; rfl
  have a2 : ∀ o k, o ≠ 5 → ¬ (o = L + 2 ∧ k = 11) → am_A σ2 o k = am_A σ1 o k := fun o k z1 z2 => by rw [hσ2]; show am_A (am_sA (am_sA σ1 5 1 _) (L + 2) 11 qf) o k = _; rw [am_A_sA, if_neg (fun y => z2 ⟨y.2, y.1⟩), am_A_sA, if_neg (fun y => z1 y.2)]
  have r2 : σ2.2.2 = σ.2.2 := by rw [hσ2]; exact r1
  have hS2 : am_Sm σ2 (L + 2) x.1 x.2.1 x.2.2.1 x.2.2.2.1 x.2.2.2.2.1 x.2.2.2.2.2 := hS1.same (fun k _ => i2 _ k) (fun k hk => a2 _ k (by omega) (by omega))
  -- an end without a new tree
  have fin : ∀ (τ : am_St) (e : Int32), (∀ o k, o ≠ 5 → o ≠ am_R σ L 4 → am_I τ o k = am_I σ2 o k) → (∀ o k, o ≠ 5 → o ≠ am_R σ L 4 → ¬ (o = L + 2 ∧ k = 11) → am_A τ o k = am_A σ2 o k) → τ.2.2 = σ2.2.2 → le_C (am_sI τ L 9 e) L x n nd e (rd + 1) 0 (-2) (-2) care order tm N ∧ le_Fr L σ (am_sI τ L 9 e) := by
    intro τ e hI hA hR
    have lI : ∀ k, k ≠ 9 → am_I (am_sI τ L 9 e) L k = am_I σ1 L k := fun k hk => by rw [am_I_sI, if_neg (fun y => hk y.1), hI L k hL5 (Ne.symm n4.1), i2]
    refine ⟨h'.upd2 (x' := x) (hS2.same (fun k _ => ?_) (fun k hk => ?_)) hst ?_ (fun k => ?_) (fun o k => ?_) (fun k z1 z2 => ?_) ?_ ?_ ?_ ?_ ?_, fun o ho => ?_⟩
    · rw [am_I_sI, if_neg (fun y => hLo y.2.symm)]; exact hI _ k (by omega) (Ne.symm n4.2.1)
    · exact hA _ k (by omega) (Ne.symm n4.2.1) (by omega)
    · rw [am_I_sI, if_neg (fun y => n3.1 y.2), hI _ 0 n3.2.2.1 hne, i2, i1 _ _ n3.1]
    · show am_A τ _ k = _
      rw [hA _ k n3.2.2.1 hne (fun y => n3.2.1 y.1), a2 _ k n3.2.2.1 (fun y => n3.2.1 y.1), a1]
    · show am_R τ o k = _
      unfold am_R; rw [hR, r2]
    · rw [lI k (by omega)]; exact l6 k (by omega)
    · rw [am_I_sI, if_pos ⟨rfl, rfl⟩]
    · rw [lI 10 (by decide)]; exact l10
    · rw [lI 11 (by decide)]; exact l11
    · rw [lI 12 (by decide)]; exact l12
    · rw [lI 13 (by decide)]; exact l13
    · have z1 : o ≠ L := fun e => ho (Or.inl e)
      have z2 : o ≠ L + 2 := fun e => ho (Or.inr (Or.inl e))
      have z3 : o ≠ 5 := fun e => ho (Or.inr (Or.inr (Or.inl e)))
      have z4 : o ≠ am_R σ L 4 := fun e => ho (Or.inr (Or.inr (Or.inr (by rw [e]; exact ht4))))
      refine ⟨fun k => ?_, fun k => ?_, ?_, fun k => ?_⟩
      · rw [am_I_sI, if_neg (fun y => z1 y.2), hI o k z3 z4, i2, i1 o k z1]
      · show am_A τ o k = _
        rw [hA o k z3 z4 (fun y => z2 y.1), a2 o k z3 (fun y => z2 y.1), a1]
      · show am_J τ o = _
        unfold am_J; rw [hR, r2]
      · show am_R τ o k = _
        unfold am_R; rw [hR, r2]
  refine kb_1_doRound_30 (kt := fun z => ?_) (kf := fun z => ?_)
  · have hus : ¬ lr_us x.1 x.2.2.2.1 (lr_g x) = true := fun e => by rw [e] at z; exact absurd z (by decide)
    have hLb : ft_Lb σ2 x.1 (lr_g x) (lr_b x) := fun i hi => by rw [hσ2, lb_St_L]; exact am_lbs_at (by have := hS.2.1; omega)
    have hT2 : am_I σ2 4 4 = nI T := by rw [i2, i1 4 4 (by omega)]; exact hW.2.2.2.2.2.1
    have etb : am_A σ2 4 10 = am_A σ 4 10 := by rw [a2 4 10 (by decide) (by omega), a1]
    have hab := hS.2.2.2.2.2.2.1.2.2.2
    have hfit : ft_F x.1 x.2.1 T x.2.2.2.2.1 x.2.2.2.2.2 (fun i t => bt (am_A σ2 4 10 (x.2.2.1 i)) t) (fun t => bt tm t) care 17 (ft_all x.1) none true (lr_g x, lr_b x, 0, fun _ _ => 0) = lr_fit T tb (fun t => bt tm t) care x := by
      refine ft_F_congr hab (fun i t hi => ?_) 17 _ _ _ _ (fun i hi => by simpa [ft_all] using hi)
      rw [etb, (hW.2.2.2.2.2.2.1 _ (hst i hi)).1]
    have eR4 : am_R σ2 L 4 = am_R σ L 4 := by unfold am_R; rw [r2]
    have eR3 : am_R σ2 L 3 = am_R σ L 3 := by unfold am_R; rw [r2]
    have ecare : am_I σ2 L 6 = am_bI care := by rw [i2, l6 6 (by decide)]; exact g6
    have etm : am_I σ2 L 8 = tm := by rw [i2, l6 8 (by decide)]; exact g8
    refine kb_1_doRound_39 (Q' := fun r τ => am_T false ya_1_doRound (d + 4) Q 62 [some (.ref (am_oid L)), none] (r.toList ++ []) τ) (hC := ?_) (k := fun _ _ hr => hr)
    rw [e1, e2, eR4, ecare, etm]
    refine sp_0_fit (T := T) hS2 hLb hz (am_clo_ls _ _ _ _).2.1 (am_clo_ls _ _ _ _).2.1 ht4.k hT2 hW.2.2.1 (fun hn τ hfr => ?_) (fun s hs τ hfr hTr' => ?_)
    · rw [hfit] at hn
      refine kb_1_doRound_62 (kt := fun y => absurd rfl y) (kf := fun _ => kb_1_doRound_65 (hq := ?_))
      obtain ⟨f1, f2⟩ := fin τ 3 hfr.1 hfr.2.1 hfr.2.2
      rw [← hQ]
      have eR : lr_rd N K T tb fl nx (fun t => bt tm t) care order (x, (n, nd), 0, rd, b0, b1, b2) = (x, (n, nd), 3, rd + 1, 0, -2, -2) := by
        unfold lr_rd; dsimp only; rw [if_neg hus, hn]
      rw [eR]
      exact ⟨rfl, f1, f2⟩
    · rw [hfit] at hs
      refine kb_1_doRound_62 (kt := fun _ => ?_) (kf := fun y => absurd y (by decide))
      obtain ⟨τ2, hτ2⟩ : ∃ τ2, τ2 = am_sR (am_sR τ L 3 (am_R τ L 4)) L 4 (am_R τ L 3) := ⟨_, rfl⟩
      have rR4 : am_R τ L 4 = am_R σ L 4 := by unfold am_R; rw [hfr.2.2, r2]
      have rR3 : am_R τ L 3 = am_R σ L 3 := by unfold am_R; rw [hfr.2.2, r2]
      have q3 : am_R τ2 L 3 = am_R σ L 4 := by rw [hτ2]; simp [am_R_sR]; exact rR4
      have q4 : am_R τ2 L 4 = am_R σ L 3 := by rw [hτ2]; simp [am_R_sR]; exact rR3
      have lI : ∀ k, am_I τ2 L k = am_I σ1 L k := fun k => by rw [hτ2]; show am_I τ L k = _; rw [hfr.1 L k hL5 (Ne.symm n4.1), i2]
      have hfr2 : le_Fr L σ τ2 := fun o ho => by
        have z1 : o ≠ L := fun e => ho (Or.inl e)
        have z2 : o ≠ L + 2 := fun e => ho (Or.inr (Or.inl e))
        have z3 : o ≠ 5 := fun e => ho (Or.inr (Or.inr (Or.inl e)))
        have z4 : o ≠ am_R σ L 4 := fun e => ho (Or.inr (Or.inr (Or.inr (by rw [e]; exact ht4))))
        refine ⟨fun k => ?_, fun k => ?_, ?_, fun k => ?_⟩
        · rw [hτ2]; show am_I τ o k = _; rw [hfr.1 o k z3 z4, i2, i1 o k z1]
        · rw [hτ2]; show am_A τ o k = _; rw [hfr.2.1 o k z3 z4 (fun y => z2 y.1), a2 o k z3 (fun y => z2 y.1), a1]
        · rw [hτ2]; show am_J τ o = _; unfold am_J; rw [hfr.2.2, r2]
        · rw [hτ2, am_R_sR, if_neg (fun y => z1 y.2), am_R_sR, if_neg (fun y => z1 y.2)]; unfold am_R; rw [hfr.2.2, r2]
      have hS3 : am_SmT τ2 (L + 2) x := hS2.same (fun k _ => by rw [hτ2]; exact hfr.1 _ k (by omega) (Ne.symm n4.2.1)) (fun k hk => by rw [hτ2]; exact hfr.2.1 _ k (by omega) (Ne.symm n4.2.1) (by omega))
      obtain ⟨-, tr2, -⟩ := ft_F_tr hW.2.2.1 _ _ _ _ _ _ 0 hs (fun p hp => by cases hp) nI_0.symm (by decide)
      have hC2 : le_C τ2 L x s.2.2.1 s.2.2.2 0 (rd + 1) 0 (-2) (-2) care order tm N := by
        refine ⟨hL, hS3, hst, by rw [q3]; exact ht4, by rw [q4]; exact ht3, by rw [q3, q4]; exact Ne.symm hne, ?_, fun i hi => tr2 i (Nat.zero_le _) hi, ?_, ?_, ?_, ?_, ?_, ?_, ?_, ?_⟩
        · rw [q3, hτ2]; exact hTr'.same rfl (fun k => rfl)
        · rw [lI, l6 9 (by decide)]; exact g9
        · rw [lI]; exact l10
        · rw [lI]; exact l11
        · rw [lI]; exact l12
        · rw [lI]; exact l13
        · rw [lI, l6 6 (by decide)]; exact g6
        · rw [lI, l6 7 (by decide)]; exact g7
        · rw [lI, l6 8 (by decide)]; exact g8
      have hA := sp_1_askTeacher (d := d) hC2 (hfr2.wo hL hW)
      rw [hτ2] at hA
      refine kb_1_doRound_71 (hC := hA) (k := fun r τ3 hr => ?_)
      obtain ⟨rfl, hr2, hr3⟩ := hr
      refine kb_1_doRound_93 (hq := ?_)
      rw [← hQ]
      have eR : lr_rd N K T tb fl nx (fun t => bt tm t) care order (x, (n, nd), 0, rd, b0, b1, b2) = ((te_ask N K fl nx (fun z => tr_hd s.2.2.1 s.2.2.2 (tb z)) order x).1, (s.2.2.1, s.2.2.2), (te_ask N K fl nx (fun z => tr_hd s.2.2.1 s.2.2.2 (tb z)) order x).2.1, rd + 1, (te_ask N K fl nx (fun z => tr_hd s.2.2.1 s.2.2.2 (tb z)) order x).2.2.1, (te_ask N K fl nx (fun z => tr_hd s.2.2.1 s.2.2.2 (tb z)) order x).2.2.2.1, (te_ask N K fl nx (fun z => tr_hd s.2.2.1 s.2.2.2 (tb z)) order x).2.2.2.2) := by
        unfold lr_rd; dsimp only; rw [if_neg hus, hs]
      rw [eR]
      rw [← hτ2] at hr3
      exact ⟨rfl, hr2, hfr2.tr hr3⟩
  · have hus : lr_us x.1 x.2.2.2.1 (lr_g x) = true := by
      cases c : lr_us x.1 x.2.2.2.1 (lr_g x)
      · rw [c] at z; exact absurd rfl z
      · rfl
    refine kb_1_doRound_33 (hq := ?_)
    obtain ⟨f1, f2⟩ := fin σ2 2 (fun _ _ _ _ => rfl) (fun _ _ _ _ _ => rfl) rfl
    rw [← hQ]
    have eR : lr_rd N K T tb fl nx (fun t => bt tm t) care order (x, (n, nd), 0, rd, b0, b1, b2) = (x, (n, nd), 2, rd + 1, 0, -2, -2) := by
      unfold lr_rd; dsimp only; rw [if_pos hus]
    rw [eR]
    exact ⟨rfl, f1, f2⟩
/-- n rounds, or fewer: what they leave, how many they were -/
noncomputable def lr_rds (N K T : Nat) (tb : Nat → Int32) (fl : Nat → Nat → Bool) (nx : Nat → Nat → Option Nat) (al : Nat → Bool) (care order : Bool) : Nat → lr_T → lr_T × Nat
  | 0, y => (y, 0)
  | n + 1, y => if y.2.2.1 = 0 then ((lr_rds N K T tb fl nx al care order n (lr_rd N K T tb fl nx al care order y)).1, (lr_rds N K T tb fl nx al care order n (lr_rd N K T tb fl nx al care order y)).2 + 1) else (y, 0)
theorem sp_1_doRounds {m : Nat} {y : lr_T} {σ : am_St} (hm : m ≤ 100) (h : le_D σ L y care order tm N) (hW : am_Wo σ N K T tb fl nx) : am_C false ya_1_doRounds (d + 5) [.ref (am_oid L), .int (nI m)] σ (fun r τ => r = some (.int (nI (lr_rds N K T tb fl nx (fun t => bt tm t) care order m y).2)) ∧ le_D τ L (lr_rds N K T tb fl nx (fun t => bt tm t) care order m y).1 care order tm N ∧ le_Fr L σ τ) := by
  have hL : L = 6 ∨ L = 7 := h.1
  obtain ⟨c1, -⟩ := le_lk hL
  have loop : ∀ (j i : Nat) (y : lr_T) (τ : am_St), i + j = m → le_D τ L y care order tm N → am_Wo τ N K T tb fl nx → le_Fr L σ τ → am_T false ya_1_doRounds (d + 5) (fun r τ => r = some (.int (nI (i + (lr_rds N K T tb fl nx (fun t => bt tm t) care order j y).2))) ∧ le_D τ L (lr_rds N K T tb fl nx (fun t => bt tm t) care order j y).1 care order tm N ∧ le_Fr L σ τ) 2 [some (.ref (am_oid L)), some (.int (nI m)), some (.int (nI i))] [] τ := by
    intro j
    induction j with
    | zero =>
      intro i y τ hi hy hw hf
      refine kb_1_doRounds_2 (kt := fun _ => kb_1_doRounds_24 ⟨rfl, hy, hf⟩) (kf := fun z => absurd ?_ z)
      exact nI_le (by omega) (by omega)
    | succ j ih =>
      intro i y τ hi hy hw hf
      have he : am_I τ L 9 = y.2.2.1 := hy.2.2.2.2.2.2.2.2.1
      refine kb_1_doRounds_2 (kt := fun z => absurd z (nI_ge (by omega) (by omega))) (kf := fun _ => ?_)
      refine kb_1_doRounds_7 (kt := fun z => ?_) (kf := fun z => ?_)
      · rw [he] at z
        have e : lr_rds N K T tb fl nx (fun t => bt tm t) care order (j + 1) y = (y, 0) := by
          show (if y.2.2.1 = 0 then _ else _) = _
          rw [if_neg z]
        refine kb_1_doRounds_24 ?_
        rw [e]
        exact ⟨rfl, hy, hf⟩
      · rw [he] at z
        have e : lr_rds N K T tb fl nx (fun t => bt tm t) care order (j + 1) y = ((lr_rds N K T tb fl nx (fun t => bt tm t) care order j (lr_rd N K T tb fl nx (fun t => bt tm t) care order y)).1, (lr_rds N K T tb fl nx (fun t => bt tm t) care order j (lr_rd N K T tb fl nx (fun t => bt tm t) care order y)).2 + 1) := by
          show (if y.2.2.1 = 0 then _ else _) = _
          rw [if_pos z]
        refine kb_1_doRounds_14 (hC := sp_1_doRound hy z hw) (k := fun r τ2 hr => ?_)
        obtain ⟨rfl, hr2, hr3⟩ := hr
        refine kb_1_doRounds_18 (k := ?_)
        rw [nI_1, e]
        have := ih (i + 1) _ τ2 (by omega) hr2 (hr3.wo hL hw) (hf.tr hr3)
        rw [show ∀ z : Nat, i + (z + 1) = (i + 1) + z from fun z => by omega]
        exact this
  refine am_enter rfl (by simp [Value.category]) (Nat.le_of_ble_eq_true rfl) (kb_1_doRounds_0 (k := ?_))
  have := loop m 0 y σ (by omega) h hW le_Fr.rf
  rw [nI_0, Nat.zero_add] at this
  exact this
end DOR
