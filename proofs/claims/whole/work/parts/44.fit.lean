/-! Fitter.fit: the stack runs the recursion -/
def ft_I (σ : am_St) (o t P q : Nat) (st td fs sn : Nat → Nat) (bp : Nat → Int32) (T : Nat) (g b : Nat → Bool) (n : Nat) (nd : Nat → Nat → Int32) (h : Nat) : Prop :=
  am_Sm σ o P q st td fs sn ∧ ft_Lb σ P g b ∧ (∀ i, P ≤ i → g i = false ∧ b i = false) ∧ am_Cl q fs sn g ∧ am_Cl q sn fs b ∧ am_A σ 5 2 = bp ∧ am_Tr σ t n nd ∧ am_I σ 4 4 = nI T ∧ am_I σ 5 6 = nI h
theorem ft_Lb_or1 {L : Nat → Int32} {P : Nat} {g g' b : Nat → Bool} (h : ∀ i, i < P → L i = am_lb (g i) (b i)) (hg : ∀ i, g i = true → g' i = true) (i : Nat) (hi : i < P) : am_or 1 g' L i = am_lb (g' i) (b i) := by
  unfold am_or; rw [h i hi]; exact am_lb_or1 _ _ _ (hg i)
theorem ft_Lb_or2 {L : Nat → Int32} {P : Nat} {g b b' : Nat → Bool} (h : ∀ i, i < P → L i = am_lb (g i) (b i)) (hg : ∀ i, b i = true → b' i = true) (i : Nat) (hi : i < P) : am_or 2 b' L i = am_lb (g i) (b' i) := by
  unfold am_or; rw [h i hi]; exact am_lb_or2 _ _ _ (hg i)
theorem sp_St_fr {σ : am_St} {o t : Nat} {w : Int32} {g : Nat → Bool} {qf : Nat → Int32} (ho5 : o ≠ 5) : ft_Fr o t σ (sp_St σ o w g qf) :=
  ⟨fun _ _ _ _ => rfl, fun o' k h1 h2 h3 => sp_St_A _ _ _ _ _ _ _ (fun z => h3 ⟨z.2, z.1⟩) (fun z => h1 z.2), rfl, sp_St_A _ _ _ _ _ _ _ (fun z => by omega) (fun z => by omega)⟩
theorem ft_pop_fr {σ : am_St} {o t h : Nat} {x0 x1 x2 x3 x4 x5 : Int32} : ft_Fr o t σ (ft_pop σ h x0 x1 x2 x3 x4 x5) := by
  refine ⟨fun o' k h1 _ => ?_, fun _ _ _ _ _ => rfl, rfl, rfl⟩
  unfold ft_pop
  simp [am_I_sI, h1]
theorem ft_run {d o t P q T : Nat} {tm : Int32} {care : Bool} {st td fs sn : Nat → Nat} {bp : Nat → Int32} (hT2 : T ≤ 16) {Q : Option Value → am_St → Prop} : ∀ (f : Nat) (S : Nat → Bool) (u v pu pv h n : Nat) (par : Option Nat) (sd : Bool) (g b : Nat → Bool) (nd : Nat → Nat → Int32) (σ : am_St) (a6 : Option Value),
    ft_I σ o t P q st td fs sn bp T g b n nd (h + 1) → ft_It (am_A σ 5 5) h (nI u) (nI v) (nI pu) (nI pv) (ft_pI par) (am_bI sd) → am_En (am_A σ 5 3) u v P S → v ≤ 200 → am_En (am_A σ 5 4) pu pv q (ft_crs q fs sn S) → pv ≤ 300 → (∀ p, par = some p → p < n) → n + 2 * max 1 (am_cn S P) ≤ 401 → h + f ≤ 17 → 17 ≤ f + am_cn (fun t => ft_cs P S (fun i => bt (bp i) t)) T →
    (ft_F P q T fs sn (fun i t => bt (bp i) t) (fun t => bt tm t) care f S par sd (g, b, n, nd) = none → ∀ τ, ft_Fr o t σ τ → Q (some (.int 0)) τ) →
    (∀ s : ft_Sg, ft_F P q T fs sn (fun i t => bt (bp i) t) (fun t => bt tm t) care f S par sd (g, b, n, nd) = some s → ∀ (τ : am_St) (b6 : Option Value), ft_I τ o t P q st td fs sn bp T s.1 s.2.1 s.2.2.1 s.2.2.2 h → ft_Fr o t σ τ → (∀ j, j < 6 * h → am_A τ 5 5 j = am_A σ 5 5 j) → (∀ j, j < u ∨ v ≤ j → am_A τ 5 3 j = am_A σ 5 3 j) → (∀ j, j < pu ∨ pv ≤ j → am_A τ 5 4 j = am_A σ 5 4 j) → am_T false ya_0_fit (d + 3) Q 24 [some (.ref (am_oid 5)), some (.ref (am_oid o)), some (.ref (am_oid t)), some (.int (am_bI care)), some (.int tm), some (.int (nI s.2.2.1)), b6] [] τ) →
    am_T false ya_0_fit (d + 3) Q 24 [some (.ref (am_oid 5)), some (.ref (am_oid o)), some (.ref (am_oid t)), some (.int (am_bI care)), some (.int tm), some (.int (nI n)), a6] [] σ := by
  intro f
  induction f with
  | zero =>
    intro S u v pu pv h n par sd g b nd σ a6 hI hIt hE hv hEp hpv hp hn hh hcs k0 k1
    have := am_cn_le (fun t => ft_cs P S (fun i => bt (bp i) t)) T
    omega
  | succ f ih =>
    intro S u v pu pv h n par sd g b nd σ a6 hI hIt hE hv hEp hpv hp hn hh hcs k0 k1
    obtain ⟨hS, hL, hz, hcg, hcb, hbp, hTr, hIT, hop⟩ := hI
    have ho := hS.1
    have ht := hTr.1
    have hP := hS.2.1
    have ho5 : o ≠ 5 := fun e => by rw [e] at ho; exact absurd ho (by decide)
    have ht5 : t ≠ 5 := fun e => by rw [e] at ht; exact absurd ht (by decide)
    have hot : o ≠ t := fun e => by rw [e, ht] at ho; exact absurd ho (by decide)
    have ht4 : (4 : Nat) ≠ t := fun e => by rw [← e] at ht; exact absurd ht (by decide)
    have hnP : n < 400 := by omega
    have sz := am_En_size (by omega) hE
    have e400 : (400 : Int32) = nI 400 := by decide
    refine kb_0_fit_24 (kt := fun z => absurd z ?_) (kf := fun _ => ?_)
    · rw [hop]; exact nI_nle (by omega) (by omega)
    refine kb_0_fit_31 (kt := fun z => absurd z ?_) (kf := fun _ => ?_)
    · rw [e400]; exact nI_ge hnP (by omega)
    refine kb_0_fit_39 (hC := sp_0_pop hop (by omega) hIt) (k := fun r τ hr => ?_)
    obtain ⟨rfl, hτ⟩ := hr
    have fr1 : ft_Fr o t σ τ := by rw [hτ]; exact ft_pop_fr
    have a1 : ∀ o' k, am_A τ o' k = am_A σ o' k := fun o' k => by rw [hτ]; rfl
    have i6 : am_I τ 5 6 = nI h := by rw [hτ]; unfold ft_pop; simp [am_I_sI]
    have i7 : am_I τ 5 7 = nI u := by rw [hτ]; unfold ft_pop; simp [am_I_sI]
    have i8 : am_I τ 5 8 = nI v := by rw [hτ]; unfold ft_pop; simp [am_I_sI]
    have i9 : am_I τ 5 9 = nI pu := by rw [hτ]; unfold ft_pop; simp [am_I_sI]
    have i10 : am_I τ 5 10 = nI pv := by rw [hτ]; unfold ft_pop; simp [am_I_sI]
    have i11 : am_I τ 5 11 = ft_pI par := by rw [hτ]; unfold ft_pop; simp [am_I_sI]
    have i12 : am_I τ 5 12 = am_bI sd := by rw [hτ]; unfold ft_pop; simp [am_I_sI]
    have hS1 : am_Sm τ o P q st td fs sn := fr1.sm ht hS
    have hN1 : ft_Nd τ u v pu pv P q fs sn S := ⟨i7, i8, i9, i10, hv, hpv, by rw [a1]; exact hE, by rw [a1]; exact hEp⟩
    have hL1 : ft_Lb τ P g b := fun i hi => by rw [a1]; exact hL i hi
    have hTr1 : am_Tr τ t n nd := hTr.same (fr1.1 t 0 ht5 |> fun z => by rw [hτ]; unfold ft_pop; simp [am_I_sI, ht5]) (fun k => a1 t k)
    have hIT1 : am_I τ 4 4 = nI T := by rw [fr1.1 4 4 (by decide) ht4]; exact hIT
    have hbp1 : am_A τ 5 2 = bp := by rw [a1]; exact hbp
    refine kb_0_fit_43 (hC := sp_0_kindHere (care := care) hP hN1 hL1) (k := fun r τ' hr => ?_)
    obtain ⟨rfl, rfl⟩ := hr
    have hF : ft_F P q T fs sn (fun i t => bt (bp i) t) (fun t => bt tm t) care (f + 1) S par sd (g, b, n, nd) = (if ft_kd care (ft_no P S b) (ft_no P S g) = 2 then
      (match ft_bst (fun t => bt tm t) (fun t => ft_cost P q fs sn S g b (fun i => bt (bp i) t)) T with
      | none => none
      | some p => match ft_F P q T fs sn (fun i t => bt (bp i) t) (fun t => bt tm t) care f (fun i => S i && bt (bp i) p.1) (some n) true (g, b, n + 1, ft_nw (ft_sp nd par sd n) n 2 (nI p.1) (nI (am_cn S P)) (ft_dp nd par) (ft_pI par)) with
        | none => none
        | some s2 => ft_F P q T fs sn (fun i t => bt (bp i) t) (fun t => bt tm t) care f (fun i => S i && !bt (bp i) p.1) (some n) false s2)
    else some (if ft_kd care (ft_no P S b) (ft_no P S g) = 1 then am_clo q fs sn (ft_or g S) else g, if ft_kd care (ft_no P S b) (ft_no P S g) = 1 then b else am_clo q sn fs (ft_or b S), n + 1, ft_nw (ft_sp nd par sd n) n (ft_kd care (ft_no P S b) (ft_no P S g)) (-2) (nI (am_cn S P)) (ft_dp nd par) (ft_pI par))) := rfl
    refine kb_0_fit_48 (kt := fun z => ?_) (kf := fun z => ?_)
    · -- parted
      rw [if_pos z] at hF
      have hcost : (fun t => ft_cost P q fs sn S g b (fun i => bt (am_A τ' 5 2 i) t)) = (fun t => ft_cost P q fs sn S g b (fun i => bt (bp i) t)) := by rw [hbp1]
      refine kb_0_fit_101 (Q' := fun r τ2 => am_T false ya_0_fit (d + 3) Q 109 [some (.ref (am_oid 5)), some (.ref (am_oid o)), some (.ref (am_oid t)), some (.int (am_bI care)), some (.int tm), some (.int (nI n)), some (.int (ft_kd care (ft_no P S b) (ft_no P S g)))] (r.toList ++ []) τ2) (hC := sp_0_part hS1 hN1 hL1 hIT1 hT2 hTr1 hnP hp i11 i12 i6 (by omega) (fun hb => ?_) (fun p c hb τ2 hPd => ?_)) (k := fun _ _ hr => hr)
      · rw [hcost] at hb
        rw [hb] at hF
        exact kb_0_fit_109 (kt := fun y => absurd rfl y) (kf := fun _ => kb_0_fit_112 (k0 hF τ' fr1))
      · rw [hcost] at hb
        rw [hb] at hF
        simp only at hF
        obtain ⟨hpT, -, hc⟩ := ft_bst_spec _ _ _ hb
        have hcc : ft_cost P q fs sn S g b (fun i => bt (bp i) p) = some c := hc
        obtain ⟨c1, c2⟩ := ft_cost_some hcc
        have sp := am_cn_split S (fun i => bt (bp i) p) P
        have m1 := ft_cs_more (bit := fun i t => bt (bp i) t) hpT hcc true
        have m0 := ft_cs_more (bit := fun i t => bt (bp i) t) hpT hcc false
        have l1 := ft_cs_lt (bit := fun i t => bt (bp i) t) hpT hcc
        have e1 : (fun i => S i && (bt (bp i) p == true)) = fun i => S i && bt (bp i) p := by funext i; simp
        have e0 : (fun i => S i && (bt (bp i) p == false)) = fun i => S i && !bt (bp i) p := by funext i; simp
        rw [e1] at m1
        rw [e0] at m0
        obtain ⟨fr2, hL2, hTr2, j6, hB, hM, hIn, m, pm, pe, q1, q2, q3, q4, q5, It0, It1, E1, E2, F1, F2⟩ := hPd
        rw [hbp1] at E1 E2 F1 F2
        have fr12 := fr1.tr fr2
        have hS2 : am_Sm τ2 o P q st td fs sn := fr12.sm ht hS
        refine kb_0_fit_109 (kt := fun _ => kb_0_fit_114 (k := ?_)) (kf := fun y => absurd y (by decide))
        rw [nI_1]
        -- the side where it holds
        refine ih (fun i => S i && bt (bp i) p) u m pu pm (h + 1) (n + 1) (some n) true g b _ τ2 _ ⟨hS2, hL2, hz, hcg, hcb, by rw [fr2.2.2.2]; exact hbp1, hTr2, by rw [fr2.1 4 4 (by decide) ht4]; exact hIT1, j6⟩ It1 E1 (by omega) F1 (by omega) (fun p' hp' => by injection hp' with hp'; omega) (by omega) (by omega) (by omega) (fun hnone τ3 fr3 => ?_) (fun s hs τ3 b6 hI3 fr3 hB3 hM3 hIn3 => ?_)
        · rw [hnone] at hF
          exact k0 hF τ3 (fr12.tr fr3)
        · rw [hs] at hF
          simp only at hF
          obtain ⟨w1, w2⟩ := ft_F_n _ _ _ _ _ _ hs
          simp only at w1 w2
          refine ih (fun i => S i && !bt (bp i) p) m v pm pe h s.2.2.1 (some n) false s.1 s.2.1 s.2.2.2 τ3 b6 hI3 ?_ ?_ hv ?_ (by omega) (fun p' hp' => by injection hp' with hp'; omega) (by omega) (by omega) (by omega) (fun hnone τ4 fr4 => k0 (hF.trans hnone) τ4 ((fr12.tr fr3).tr fr4)) (fun s' hs' τ4 b6' hI4 fr4 hB4 hM4 hIn4 => ?_)
          · obtain ⟨z0, z1, z2, z3, z4, z5⟩ := It0
            exact ⟨(hB3 _ (by omega)).trans z0, (hB3 _ (by omega)).trans z1, (hB3 _ (by omega)).trans z2, (hB3 _ (by omega)).trans z3, (hB3 _ (by omega)).trans z4, (hB3 _ (by omega)).trans z5⟩
          · obtain ⟨y0, y1, y2, y3⟩ := E2
            refine ⟨y0, fun j c1 c2 => ?_, fun i hi => ?_, fun j j' c1 c2 c3 c4 => ?_⟩
            · rw [hM3 j (Or.inr c1)]; exact y1 j c1 c2
            · obtain ⟨x1, j, x2, x3, x4⟩ := y2 i hi
              exact ⟨x1, j, x2, x3, by rw [hM3 j (Or.inr x2)]; exact x4⟩
            · rw [hM3 j (Or.inr c1), hM3 j' (Or.inr c3)]; exact y3 j j' c1 c2 c3 c4
          · obtain ⟨y0, y1, y2, y3⟩ := F2
            refine ⟨y0, fun j c1 c2 => ?_, fun i hi => ?_, fun j j' c1 c2 c3 c4 => ?_⟩
            · rw [hIn3 j (Or.inr c1)]; exact y1 j c1 c2
            · obtain ⟨x1, j, x2, x3, x4⟩ := y2 i hi
              exact ⟨x1, j, x2, x3, by rw [hIn3 j (Or.inr x2)]; exact x4⟩
            · rw [hIn3 j (Or.inr c1), hIn3 j' (Or.inr c3)]; exact y3 j j' c1 c2 c3 c4
          · refine k1 s' (hF.trans hs') τ4 b6' hI4 ((fr12.tr fr3).tr fr4) (fun j hj => ?_) (fun j hj => ?_) (fun j hj => ?_)
            · rw [hB4 j hj, hB3 j (by omega), hB j hj, a1]
            · rw [hM4 j (by omega), hM3 j (by omega), hM j hj, a1]
            · rw [hIn4 j (by omega), hIn3 j (by omega), hIn j hj, a1]
    · -- a leaf
      rw [if_neg z] at hF
      have eC : am_C false ya_8_addNode (d + 2) [.ref (am_oid t), .int (ft_kd care (ft_no P S b) (ft_no P S g)), .int (-2), .int (am_I τ' 5 11), .int (am_I τ' 5 12), .int (am_I τ' 5 8 - am_I τ' 5 7)] τ' (fun r τ1 => r = some (.int (nI n)) ∧ am_On t τ' τ1 ∧ am_Tr τ1 t (n + 1) (ft_nw (ft_sp nd par sd n) n (ft_kd care (ft_no P S b) (ft_no P S g)) (-2) (nI (am_cn S P)) (ft_dp nd par) (ft_pI par))) := by
        rw [i11, i12, i7, i8, nI_sub hE.1, sz]
        exact sp_8_addNode hTr1 hnP hp
      refine kb_0_fit_56 (hC := eC) (k := fun r τ2 hr => ?_)
      obtain ⟨rfl, hOn, hTr2⟩ := hr
      have fr2 : ft_Fr o t τ' τ2 := hOn.fr ht
      have fr12 := fr1.tr fr2
      have a5 : ∀ k, am_A τ2 5 k = am_A τ' 5 k := fun k => hOn.2.1 5 k (Ne.symm ht5)
      have i5 : ∀ k, am_I τ2 5 k = am_I τ' 5 k := fun k => hOn.1 5 k (Ne.symm ht5)
      have hS2 : am_Sm τ2 o P q st td fs sn := fr12.sm ht hS
      have hN2 : ft_Nd τ2 u v pu pv P q fs sn S := ⟨by rw [i5]; exact i7, by rw [i5]; exact i8, by rw [i5]; exact i9, by rw [i5]; exact i10, hv, hpv, by rw [a5, a1]; exact hE, by rw [a5, a1]; exact hEp⟩
      have hL2 : ft_Lb τ2 P g b := fun i hi => by rw [a5]; exact hL1 i hi
      have hIT2 : am_I τ2 4 4 = nI T := by rw [fr12.1 4 4 (by decide) ht4]; exact hIT
      have hbp2 : am_A τ2 5 2 = bp := by rw [a5]; exact hbp1
      have h4 : ∀ i, i < P → am_A τ2 5 1 i = 0 ∨ am_A τ2 5 1 i = 1 ∨ am_A τ2 5 1 i = 2 ∨ am_A τ2 5 1 i = 3 := fun i hi => by rw [hL2 i hi]; exact (am_lb_bt _ _).2.2
      have hTr3 : ∀ (w : Int32) (g' : Nat → Bool) (qf : Nat → Int32), am_Tr (sp_St τ2 o w g' qf) t (n + 1) (ft_nw (ft_sp nd par sd n) n (ft_kd care (ft_no P S b) (ft_no P S g)) (-2) (nI (am_cn S P)) (ft_dp nd par) (ft_pI par)) := fun w g' qf => hTr2.same rfl (fun k => sp_St_A _ _ _ _ _ _ _ (fun y => hot y.2.symm) (fun y => ht5 y.2))
      refine kb_0_fit_81 (kt := fun y => ?_) (kf := fun y => ?_)
      · rw [if_neg y, if_neg y] at hF
        refine kb_0_fit_94 (k := kb_0_fit_95 (hC := sp_0_settle (d := d + 1) (w := 2) (x4 := 0) (fh := 9) (fn := 10) (ft := 4) (a := sn) (b := fs) (S0 := b) hS2 hN2 h4 (fun i hi => by rw [hL2 i hi]; exact (am_lb_bt _ _).2.1.symm) (fun i hi => (hz i hi).2) hcb (Or.inr ⟨rfl, rfl, rfl, rfl, rfl, rfl, rfl⟩)) (k := fun r τ3 hr => ?_))
        obtain ⟨rfl, b', qf, hb', hzb, rfl⟩ := hr
        have eb : b' = am_clo q sn fs (ft_or b S) := hb'.eq
        have fr3 : ft_Fr o t τ2 (sp_St τ2 o 2 b' qf) := sp_St_fr ho5
        refine kb_0_fit_98 (k := kb_0_fit_114 (k := ?_))
        rw [nI_1]
        refine k1 _ hF _ _ ⟨fr3.sm ht hS2, fun i hi => ?_, fun i hi => ⟨(hz i hi).1, by rw [← eb]; exact hzb i hi⟩, hcg, by rw [← eb]; exact hb'.2.1, by rw [fr3.2.2.2]; exact hbp2, hTr3 _ _ _, hIT2, by rw [sp_St_I, i5]; exact i6⟩ (fr12.tr fr3) (fun j hj => ?_) (fun j hj => ?_) (fun j hj => ?_)
        · rw [sp_St_L, ← eb]; exact ft_Lb_or2 hL2 (fun i hi => hb'.1 i (by simp [hi])) i hi
        · rw [sp_St_A _ _ _ _ _ _ _ (by omega) (by omega), a5, a1]
        · rw [sp_St_A _ _ _ _ _ _ _ (by omega) (by omega), a5, a1]
        · rw [sp_St_A _ _ _ _ _ _ _ (by omega) (by omega), a5, a1]
      · rw [if_pos y, if_pos y] at hF
        refine kb_0_fit_90 (k := kb_0_fit_95 (hC := sp_0_settle (d := d + 1) (w := 1) (x4 := 1) (fh := 7) (fn := 8) (ft := 5) (a := fs) (b := sn) (S0 := g) hS2 hN2 h4 (fun i hi => by rw [hL2 i hi]; exact (am_lb_bt _ _).1.symm) (fun i hi => (hz i hi).1) hcg (Or.inl ⟨rfl, rfl, rfl, rfl, rfl, rfl, rfl⟩)) (k := fun r τ3 hr => ?_))
        obtain ⟨rfl, g', qf, hg', hzg, rfl⟩ := hr
        have eg : g' = am_clo q fs sn (ft_or g S) := hg'.eq
        have fr3 : ft_Fr o t τ2 (sp_St τ2 o 1 g' qf) := sp_St_fr ho5
        refine kb_0_fit_98 (k := kb_0_fit_114 (k := ?_))
        rw [nI_1]
        refine k1 _ hF _ _ ⟨fr3.sm ht hS2, fun i hi => ?_, fun i hi => ⟨by rw [← eg]; exact hzg i hi, (hz i hi).2⟩, by rw [← eg]; exact hg'.2.1, hcb, by rw [fr3.2.2.2]; exact hbp2, hTr3 _ _ _, hIT2, by rw [sp_St_I, i5]; exact i6⟩ (fr12.tr fr3) (fun j hj => ?_) (fun j hj => ?_) (fun j hj => ?_)
        · rw [sp_St_L, ← eg]; exact ft_Lb_or1 hL2 (fun i hi => hg'.1 i (by simp [hi])) i hi
        · rw [sp_St_A _ _ _ _ _ _ _ (by omega) (by omega), a5, a1]
        · rw [sp_St_A _ _ _ _ _ _ _ (by omega) (by omega), a5, a1]
        · rw [sp_St_A _ _ _ _ _ _ _ (by omega) (by omega), a5, a1]
