/-! Fitter.part -/
/-- what a fitting leaves as it was: all but the fitter, the tree and the queue of the samples -/
def ft_Fr (o t : Nat) (σ τ : am_St) : Prop := (∀ o' k, o' ≠ 5 → o' ≠ t → am_I τ o' k = am_I σ o' k) ∧ (∀ o' k, o' ≠ 5 → o' ≠ t → ¬ (o' = o ∧ k = 11) → am_A τ o' k = am_A σ o' k) ∧ τ.2.2 = σ.2.2 ∧ am_A τ 5 2 = am_A σ 5 2
theorem ft_Fr.rf {o t : Nat} {σ : am_St} : ft_Fr o t σ σ := ⟨fun _ _ _ _ => rfl, fun _ _ _ _ _ => rfl, rfl, rfl⟩
theorem ft_Fr.tr {o t : Nat} {σ τ υ : am_St} (h : ft_Fr o t σ τ) (h' : ft_Fr o t τ υ) : ft_Fr o t σ υ := ⟨fun o' k h1 h2 => (h'.1 o' k h1 h2).trans (h.1 o' k h1 h2), fun o' k h1 h2 h3 => (h'.2.1 o' k h1 h2 h3).trans (h.2.1 o' k h1 h2 h3), h'.2.2.1.trans h.2.2.1, h'.2.2.2.trans h.2.2.2⟩
theorem ft_Fr.sm {o t P q : Nat} {st td fs sn : Nat → Nat} {σ τ : am_St} (h : ft_Fr o t σ τ) (ht : am_k false t = 8) (hS : am_Sm σ o P q st td fs sn) : am_Sm τ o P q st td fs sn := by
  have ho := hS.1
  have ho5 : o ≠ 5 := fun e => by rw [e] at ho; exact absurd ho (by decide)
  have hot : o ≠ t := fun e => by rw [e, ht] at ho; exact absurd ho (by decide)
  exact hS.same (fun k _ => h.1 o k ho5 hot) (fun k hk => h.2.1 o k ho5 hot (fun z => by omega))
theorem am_On.fr {o t : Nat} {σ τ : am_St} (ht : am_k false t = 8) (h : am_On t σ τ) : ft_Fr o t σ τ := by
  have ht5 : (5 : Nat) ≠ t := fun e => by rw [← e] at ht; exact absurd ht (by decide)
  exact ⟨fun o' k _ h2 => h.1 o' k h2, fun o' k _ h2 _ => h.2.1 o' k h2, h.2.2, h.2.1 5 2 ht5⟩
theorem am_Tr.same {σ τ : am_St} {t n : Nat} {nd : Nat → Nat → Int32} (h : am_Tr σ t n nd) (hI : am_I τ t 0 = am_I σ t 0) (hA : ∀ k, am_A τ t k = am_A σ t k) : am_Tr τ t n nd := ⟨h.1, h.2.1, by rw [hI]; exact h.2.2.1, fun i hi f hf => by rw [hA]; exact h.2.2.2 i hi f hf⟩
/-- where part has parted by the test p: the two new items on the stack -/
def ft_Pd (σ τ : am_St) (o t P q u v pu pv h n p : Nat) (st td fs sn : Nat → Nat) (S g b : Nat → Bool) (nd1 : Nat → Nat → Int32) : Prop :=
  ft_Fr o t σ τ ∧ ft_Lb τ P g b ∧ am_Tr τ t (n + 1) nd1 ∧ am_I τ 5 6 = nI (h + 2) ∧ (∀ j, j < 6 * h → am_A τ 5 5 j = am_A σ 5 5 j) ∧ (∀ j, j < u ∨ v ≤ j → am_A τ 5 3 j = am_A σ 5 3 j) ∧ (∀ j, j < pu ∨ pv ≤ j → am_A τ 5 4 j = am_A σ 5 4 j) ∧
  ∃ m pm pe : Nat, m ≤ v ∧ u ≤ m ∧ pu ≤ pm ∧ pm ≤ pe ∧ pe ≤ pv ∧ ft_It (am_A τ 5 5) h (nI m) (nI v) (nI pm) (nI pe) (nI n) (am_bI false) ∧ ft_It (am_A τ 5 5) (h + 1) (nI u) (nI m) (nI pu) (nI pm) (nI n) (am_bI true) ∧
  am_En (am_A τ 5 3) u m P (fun i => S i && bt (am_A σ 5 2 i) p) ∧ am_En (am_A τ 5 3) m v P (fun i => S i && !bt (am_A σ 5 2 i) p) ∧ am_En (am_A τ 5 4) pu pm q (ft_crs q fs sn (fun i => S i && bt (am_A σ 5 2 i) p)) ∧ am_En (am_A τ 5 4) pm pe q (ft_crs q fs sn (fun i => S i && !bt (am_A σ 5 2 i) p))
theorem am_sI_sI (σ : am_St) (o k : Nat) (v w : Int32) : am_sI (am_sI σ o k v) o k w = am_sI σ o k w := by
  unfold am_sI
  refine Prod.ext ?_ rfl
  funext o' k'
  dsimp only
  split <;> rfl
theorem ft_bo1 (d a c x y : Bool) : ((d && (a && c)) && (x && y)) = (d && ((a && x) && (c && y))) := by cases d <;> cases a <;> cases c <;> cases x <;> cases y <;> rfl
theorem ft_bo0 (d a c x y : Bool) : (((d && (a && c)) && !(x && y)) && (!x && !y)) = (d && ((a && !x) && (c && !y))) := by cases d <;> cases a <;> cases c <;> cases x <;> cases y <;> rfl
theorem ft_crs_1 (q : Nat) (fs sn : Nat → Nat) (S β : Nat → Bool) : (fun k => ft_crs q fs sn S k && (β (fs k) && β (sn k))) = ft_crs q fs sn (fun i => S i && β i) := funext (fun k => ft_bo1 _ _ _ _ _)
theorem ft_crs_0 (q : Nat) (fs sn : Nat → Nat) (S β : Nat → Bool) : (fun k => (ft_crs q fs sn S k && !(β (fs k) && β (sn k))) && (!β (fs k) && !β (sn k))) = ft_crs q fs sn (fun i => S i && !β i) := funext (fun k => ft_bo0 _ _ _ _ _)
theorem sp_0_part {d o t P q u v pu pv h n T : Nat} {tm : Int32} {par : Option Nat} {sd : Bool} {st td fs sn : Nat → Nat} {S g b : Nat → Bool} {nd : Nat → Nat → Int32} {σ : am_St} (hS : am_Sm σ o P q st td fs sn) (hN : ft_Nd σ u v pu pv P q fs sn S) (hL : ft_Lb σ P g b) (hT : am_I σ 4 4 = nI T) (hT2 : T ≤ 16)
    (hTr : am_Tr σ t n nd) (hn : n < 400) (hp : ∀ p, par = some p → p < n) (hpar : am_I σ 5 11 = ft_pI par) (hsd : am_I σ 5 12 = am_bI sd) (hh : am_I σ 5 6 = nI h) (hh2 : h + 2 ≤ 20) {Q : Option Value → am_St → Prop}
    (k0 : ft_bst (fun t => bt tm t) (fun t => ft_cost P q fs sn S g b (fun i => bt (am_A σ 5 2 i) t)) T = none → Q (some (.int 0)) σ)
    (k1 : ∀ p c, ft_bst (fun t => bt tm t) (fun t => ft_cost P q fs sn S g b (fun i => bt (am_A σ 5 2 i) t)) T = some (p, c) → ∀ τ, ft_Pd σ τ o t P q u v pu pv h n p st td fs sn S g b (ft_nw (ft_sp nd par sd n) n 2 (nI p) (nI (am_cn S P)) (ft_dp nd par) (ft_pI par)) → Q (some (.int 1)) τ) :
    am_C false ya_0_part (d + 2) [.ref (am_oid 5), .ref (am_oid o), .ref (am_oid t), .int tm] σ Q := by
  have ho := hS.1
  have ht := hTr.1
  have hP := hS.2.1
  have hq := hS.2.2.1
  have ho5 : o ≠ 5 := fun e => by rw [e] at ho; exact absurd ho (by decide)
  have ht5 : t ≠ 5 := fun e => by rw [e] at ht; exact absurd ht (by decide)
  obtain ⟨n1, n2, n3, n4, n5, n6, n7, n8⟩ := id hN
  have sz := am_En_size (by omega) n7
  refine am_enter rfl (by simp [Value.category]) (Nat.le_of_ble_eq_true rfl) ?_
  refine kb_0_part_0 (hC := sp_0_cheapest hS hN hL hT hT2) (k := fun r τ hr => ?_)
  obtain ⟨rfl, rfl⟩ := hr
  cases hb : ft_bst (fun t => bt tm t) (fun t => ft_cost P q fs sn S g b (fun i => bt (am_A τ 5 2 i) t)) T with
  | none => exact kb_0_part_6 (kt := fun z => absurd z (by decide)) (kf := fun _ => kb_0_part_13 (k0 hb))
  | some pc =>
    obtain ⟨p, c⟩ := pc
    obtain ⟨hpT, -, -⟩ := ft_bst_spec _ _ _ hb
    refine kb_0_part_6 (kt := fun _ => ?_) (kf := fun z => absurd (nI_pos' (by omega)) z)
    have eC : am_C false ya_8_addNode (d + 1) [.ref (am_oid t), .int 2, .int (ft_oI (some (p, c))), .int (am_I τ 5 11), .int (am_I τ 5 12), .int (am_I τ 5 8 - am_I τ 5 7)] τ (fun r τ1 => r = some (.int (nI n)) ∧ am_On t τ τ1 ∧ am_Tr τ1 t (n + 1) (ft_nw (ft_sp nd par sd n) n 2 (nI p) (nI (am_cn S P)) (ft_dp nd par) (ft_pI par))) := by
      rw [hpar, hsd, n1, n2, nI_sub n7.1, sz]
      exact sp_8_addNode hTr hn hp
    refine kb_0_part_15 (hC := eC) (k := fun r τ1 hr => ?_)
    obtain ⟨rfl, hOn, hTr1⟩ := hr
    have a5 : ∀ k, am_A τ1 5 k = am_A τ 5 k := fun k => hOn.2.1 5 k (Ne.symm ht5)
    have i5 : ∀ k, am_I τ1 5 k = am_I τ 5 k := fun k => hOn.1 5 k (Ne.symm ht5)
    have hS1 : am_Sm τ1 o P q st td fs sn := (hOn.fr ht).sm ht hS
    refine kb_0_part_39 (hC := sp_0_partPoints (t := p) hP (by omega) (by rw [i5]; exact n1) (by rw [i5]; exact n2) n5 (by rw [a5]; exact n7)) (k := fun r τ2 hr => ?_)
    obtain ⟨m, e, rfl, rfl, hPt⟩ := hr
    rw [a5, a5] at hPt
    obtain ⟨E1, E2⟩ := am_Pt_end (β := fun i => bt (am_A τ 5 2 i) p) (by omega) hPt (fun i hi => by unfold am_prB; rw [nI_clamp (by omega)])
    obtain ⟨hm1, hm2, -, -, -, -, hPo⟩ := hPt
    have hS2 : am_Sm (am_sA τ1 5 3 e) o P q st td fs sn := hS1.same (fun _ _ => rfl) (fun k _ => by rw [am_A_sA, if_neg (fun z => ho5 z.2)])
    -- the pairs of the side where it holds
    have g1 := sp_0_gatherPairs (d := d + 1) (t := p) (side := true) (u := pu) (pt := pv) (S := ft_crs q fs sn S) hS2 (by omega) (show am_I (am_sA τ1 5 3 e) 5 10 = nI pv by rw [am_I_sA, i5]; exact n4) n6 (by rw [am_A_sA, if_neg (by simp), a5]; exact n8)
    have e9 : am_I (am_sA τ1 5 3 e) 5 9 = nI pu := by rw [am_I_sA, i5]; exact n3
    refine kb_0_part_47 (hC := by rw [e9]; exact g1) (k := fun r τ3 hr => ?_)
    obtain ⟨pm, ep, rfl, rfl, hPp⟩ := hr
    have b2 : am_A (am_sA τ1 5 3 e) 5 2 = am_A τ 5 2 := by rw [am_A_sA, if_neg (by simp), a5]
    have b4 : am_A (am_sA τ1 5 3 e) 5 4 = am_A τ 5 4 := by rw [am_A_sA, if_neg (by simp), a5]
    rw [b2, b4] at hPp
    obtain ⟨F1, F2⟩ := am_Pt_end (β := fun k => bt (am_A τ 5 2 (fs k)) p && bt (am_A τ 5 2 (sn k)) p) (by omega) hPp (fun k hk => by unfold am_prP; rw [nI_clamp (by omega)]; simp)
    obtain ⟨hq1, hq2, -, -, -, -, hQo⟩ := hPp
    have hS3 : am_Sm (am_sA (am_sA τ1 5 3 e) 5 4 ep) o P q st td fs sn := hS2.same (fun _ _ => rfl) (fun k _ => by rw [am_A_sA, if_neg (fun z => ho5 z.2)])
    have g2 := sp_0_gatherPairs (d := d + 1) (t := p) (side := false) (u := pm) (pt := pv) (S := fun k => ft_crs q fs sn S k && !(bt (am_A τ 5 2 (fs k)) p && bt (am_A τ 5 2 (sn k)) p)) hS3 (by omega) (show am_I (am_sA (am_sA τ1 5 3 e) 5 4 ep) 5 10 = nI pv by rw [am_I_sA, am_I_sA, i5]; exact n4) n6 (by rw [am_A_sA, if_pos ⟨rfl, rfl⟩]; exact F2)
    refine kb_0_part_61 (hC := g2) (k := fun r τ4 hr => ?_)
    obtain ⟨pe, eq, rfl, rfl, hPq⟩ := hr
    have b2' : am_A (am_sA (am_sA τ1 5 3 e) 5 4 ep) 5 2 = am_A τ 5 2 := by rw [am_A_sA, if_neg (by simp)]; exact b2
    have b4' : am_A (am_sA (am_sA τ1 5 3 e) 5 4 ep) 5 4 = ep := by rw [am_A_sA, if_pos ⟨rfl, rfl⟩]
    rw [b2', b4'] at hPq
    obtain ⟨G1, G2⟩ := am_Pt_end (β := fun k => !bt (am_A τ 5 2 (fs k)) p && !bt (am_A τ 5 2 (sn k)) p) (by omega) hPq (fun k hk => by unfold am_prP; rw [nI_clamp (by omega)]; simp)
    obtain ⟨hr1, hr2, -, -, -, -, hRo⟩ := hPq
    rw [am_sA_sA]
    -- the two pushes
    obtain ⟨τ4, hτ4⟩ : ∃ τ4 : am_St, τ4 = am_sA (am_sA τ1 5 3 e) 5 4 eq := ⟨_, rfl⟩
    rw [← hτ4]
    have j5 : ∀ k, am_I τ4 5 k = am_I τ 5 k := fun k => by rw [hτ4, am_I_sA, am_I_sA]; exact i5 k
    have p1 := sp_0_push (d := d + 1) (h := h) (x1 := nI n) (sd := false) (σ := am_sI (am_sI (am_sI τ4 5 7 (nI m)) 5 9 (nI pm)) 5 10 (nI pe)) (by simp [am_I_sI]; rw [j5]; exact hh) (by omega)
    refine kb_0_part_73 (hC := p1) (k := fun r τ5 hr => ?_)
    obtain ⟨rfl, f5, rfl, hI5, hB5⟩ := hr
    simp only [am_I_sI] at hI5
    simp only [Nat.reduceEqDiff, false_and, and_false, if_false, and_self, if_true, and_true] at hI5
    rw [j5, n2] at hI5
    have p2 := sp_0_push (d := d + 1) (h := h + 1) (x1 := nI n) (sd := true) (σ := am_sI (am_sI (am_sI (am_sI (am_sI (am_sA (am_sI (am_sI (am_sI τ4 5 7 (nI m)) 5 9 (nI pm)) 5 10 (nI pe)) 5 5 f5) 5 6 (nI (h + 1))) 5 7 (am_I τ4 5 7)) 5 8 (nI m)) 5 9 (am_I τ4 5 9)) 5 10 (nI pm)) (by simp [am_I_sI]) (by omega)
    refine kb_0_part_112 (hC := p2) (k := fun r τ6 hr => ?_)
    obtain ⟨rfl, f6, rfl, hI6, hB6⟩ := hr
    simp only [am_I_sI] at hI6
    simp only [Nat.reduceEqDiff, false_and, and_false, if_false, and_self, if_true, and_true] at hI6
    rw [j5, j5, n1, n3] at hI6
    have hB6' : ∀ j, j < 6 * (h + 1) → f6 j = f5 j := fun j hj => by
      rw [hB6 j hj]
      simp [am_A_sI, am_A_sA]
    have hB5' : ∀ j, j < 6 * h → f5 j = am_A τ 5 5 j := fun j hj => by
      rw [hB5 j hj]
      simp only [am_A_sI]
      rw [hτ4, am_A_sA, if_neg (by simp), am_A_sA, if_neg (by simp), a5]
    refine kb_0_part_143 (k1 p c hb _ ⟨⟨fun o' k h1 h2 => ?_, fun o' k h1 h2 h3 => ?_, ?_, ?_⟩, fun i hi => ?_, hTr1.same ?_ (fun k => ?_), ?_, fun j hj => ?_, fun j hj => ?_, fun j hj => ?_, m, pm, pe, hm2, hm1, hq1, hr1, hr2, ?_, ?_, ?_, ?_, ?_, ?_⟩)
    · simp only [am_I_sI, am_I_sA, h1, and_false, if_false]
      rw [hτ4, am_I_sA, am_I_sA]; exact hOn.1 o' k h2
    · simp only [am_A_sI, am_A_sA, h1, and_false, if_false]
      rw [hτ4, am_A_sA, if_neg (fun z => h1 z.2), am_A_sA, if_neg (fun z => h1 z.2)]; exact hOn.2.1 o' k h2
    · rw [hτ4]; exact hOn.2.2
    · simp only [am_A_sI]
      rw [am_A_sA, if_neg (by simp)]
      simp only [am_A_sI]
      rw [am_A_sA, if_neg (by simp)]
      simp only [am_A_sI]
      rw [hτ4, am_A_sA, if_neg (by simp), am_A_sA, if_neg (by simp)]; exact a5 2
    · simp only [am_A_sI]
      rw [am_A_sA, if_neg (by simp)]
      simp only [am_A_sI]
      rw [am_A_sA, if_neg (by simp)]
      simp only [am_A_sI]
      rw [hτ4, am_A_sA, if_neg (by simp), am_A_sA, if_neg (by simp), a5 1]; exact hL i hi
    · simp only [am_I_sI, am_I_sA, ht5, and_false, if_false]
      rw [hτ4, am_I_sA, am_I_sA]
    · simp only [am_A_sI, am_A_sA, ht5, and_false, if_false]
      rw [hτ4, am_A_sA, if_neg (fun z => ht5 z.2), am_A_sA, if_neg (fun z => ht5 z.2)]
    · simp [am_I_sI]
    · simp only [am_A_sI]
      rw [am_A_sA, if_pos ⟨rfl, rfl⟩, hB6' j (by omega)]
      exact hB5' j hj
    · simp only [am_A_sI]
      rw [am_A_sA, if_neg (by simp)]
      simp only [am_A_sI]
      rw [am_A_sA, if_neg (by simp)]
      simp only [am_A_sI]
      rw [hτ4, am_A_sA, if_neg (by simp), am_A_sA, if_pos ⟨rfl, rfl⟩]
      exact hPo j hj
    · simp only [am_A_sI]
      rw [am_A_sA, if_neg (by simp)]
      simp only [am_A_sI]
      rw [am_A_sA, if_neg (by simp)]
      simp only [am_A_sI]
      rw [hτ4, am_A_sA, if_pos ⟨rfl, rfl⟩]
      rw [hRo j (by omega)]
      exact hQo j hj
    · simp only [am_A_sI]
      rw [am_A_sA, if_pos ⟨rfl, rfl⟩]
      obtain ⟨z0, z1, z2, z3, z4, z5⟩ := hI5
      exact ⟨(hB6' _ (by omega)).trans z0, (hB6' _ (by omega)).trans z1, (hB6' _ (by omega)).trans z2, (hB6' _ (by omega)).trans z3, (hB6' _ (by omega)).trans z4, (hB6' _ (by omega)).trans z5⟩
    · simp only [am_A_sI]
      rw [am_A_sA, if_pos ⟨rfl, rfl⟩]
      exact hI6
    · simp only [am_A_sI]
      rw [am_A_sA, if_neg (by simp)]
      simp only [am_A_sI]
      rw [am_A_sA, if_neg (by simp)]
      simp only [am_A_sI]
      rw [hτ4, am_A_sA, if_neg (by simp), am_A_sA, if_pos ⟨rfl, rfl⟩]
      exact E1
    · simp only [am_A_sI]
      rw [am_A_sA, if_neg (by simp)]
      simp only [am_A_sI]
      rw [am_A_sA, if_neg (by simp)]
      simp only [am_A_sI]
      rw [hτ4, am_A_sA, if_neg (by simp), am_A_sA, if_pos ⟨rfl, rfl⟩]
      exact E2
    · simp only [am_A_sI]
      rw [am_A_sA, if_neg (by simp)]
      simp only [am_A_sI]
      rw [am_A_sA, if_neg (by simp)]
      simp only [am_A_sI]
      rw [hτ4, am_A_sA, if_pos ⟨rfl, rfl⟩]
      have ec : (fun k => ft_crs q fs sn S k && (bt (am_A τ 5 2 (fs k)) p && bt (am_A τ 5 2 (sn k)) p)) = ft_crs q fs sn (fun i => S i && bt (am_A τ 5 2 i) p) := by
        exact ft_crs_1 q fs sn S (fun i => bt (am_A τ 5 2 i) p)
      rw [← ec]
      obtain ⟨y0, y1, y2, y3⟩ := F1
      refine ⟨y0, fun j c1 c2 => ?_, fun i hi => ?_, fun j j' c1 c2 c3 c4 => ?_⟩
      · rw [hRo j (Or.inl c2)]; exact y1 j c1 c2
      · obtain ⟨x1, j, x2, x3, x4⟩ := y2 i hi
        exact ⟨x1, j, x2, x3, by rw [hRo j (Or.inl x3)]; exact x4⟩
      · rw [hRo j (Or.inl c2), hRo j' (Or.inl c4)]; exact y3 j j' c1 c2 c3 c4
    · simp only [am_A_sI]
      rw [am_A_sA, if_neg (by simp)]
      simp only [am_A_sI]
      rw [am_A_sA, if_neg (by simp)]
      simp only [am_A_sI]
      rw [hτ4, am_A_sA, if_pos ⟨rfl, rfl⟩]
      have ec : (fun k => (ft_crs q fs sn S k && !(bt (am_A τ 5 2 (fs k)) p && bt (am_A τ 5 2 (sn k)) p)) && (!bt (am_A τ 5 2 (fs k)) p && !bt (am_A τ 5 2 (sn k)) p)) = ft_crs q fs sn (fun i => S i && !bt (am_A τ 5 2 i) p) := by
        exact ft_crs_0 q fs sn S (fun i => bt (am_A τ 5 2 i) p)
      rw [← ec]
      exact G1
