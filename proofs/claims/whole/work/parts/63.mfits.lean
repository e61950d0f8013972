/-! THE REFERENCE: makes, parts, fits -/
theorem sp_11_makes {d n : Nat} {x1 x2 x3 x4 : Int32} {σ : am_St} (hn : am_I σ 16 33 = nI n) (hn2 : n < 402) : am_C true ya_11_makes d [.ref (am_oid 16), .int x1, .int x2, .int x3, .int x4] σ (fun r τ => r = some (.int (nI n)) ∧ ∃ F : Nat → Int32, τ = am_sI (am_sA σ 16 32 F) 16 33 (nI (n + 1)) ∧ (∀ j, j < 6 * n → F j = am_A σ 16 32 j) ∧ F (6 * n) = x1 ∧ F (6 * n + 1) = x2 ∧ F (6 * n + 2) = -2 ∧ F (6 * n + 3) = -2 ∧ F (6 * n + 4) = x3 ∧ F (6 * n + 5) = x4) := by
  have e0 : (6 : Int32) * am_I σ 16 33 = nI (6 * n) := by rw [hn]; exact nI_mul 6 n
  have e1 : ∀ k, nI (6 * n) + nI k = nI (6 * n + k) := fun k => nI_add _ _
  have v0 : vp_in ((6 : Int32) * am_I σ 16 33) 2412 := by rw [e0]; exact vp_in_nI (by omega) (by omega)
  have v : ∀ k, k < 6 → vp_in ((6 : Int32) * am_I σ 16 33 + nI k) 2412 := fun k hk => by rw [e0, e1]; exact vp_in_nI (by omega) (by omega)
  refine am_enter rfl (by simp [Value.category]) (Nat.le_of_ble_eq_true rfl) ?_
  refine kb_11_makes_0 (hi1 := v0) (hi2 := v 1 (by omega)) (hi3 := v 2 (by omega)) (hi4 := v 3 (by omega)) (hi5 := v 4 (by omega)) (hi6 := v 5 (by omega)) (hq := ⟨?_, ?_⟩)
  · rw [hn, Int32.add_sub_cancel]
  · have w : ∀ k, (6 : Int32) * am_I σ 16 33 + nI k = nI (6 * n + k) := fun k => by rw [e0, e1]
    have w1 : (6 : Int32) * am_I σ 16 33 + 1 = nI (6 * n + 1) := w 1
    have w2 : (6 : Int32) * am_I σ 16 33 + 2 = nI (6 * n + 2) := w 2
    have w3 : (6 : Int32) * am_I σ 16 33 + 3 = nI (6 * n + 3) := w 3
    have w4 : (6 : Int32) * am_I σ 16 33 + 4 = nI (6 * n + 4) := w 4
    have w5 : (6 : Int32) * am_I σ 16 33 + 5 = nI (6 * n + 5) := w 5
    rw [w1, w2, w3, w4, w5, e0, nI_clamp (show 6 * n < 2 ^ 31 by omega), nI_clamp (show 6 * n + 1 < 2 ^ 31 by omega), nI_clamp (show 6 * n + 2 < 2 ^ 31 by omega), nI_clamp (show 6 * n + 3 < 2 ^ 31 by omega), nI_clamp (show 6 * n + 4 < 2 ^ 31 by omega), nI_clamp (show 6 * n + 5 < 2 ^ 31 by omega)]
    simp only [am_sA_sA]
    rw [hn, nI_1]
    refine ⟨_, rfl, fun j hj => ?_, ?_, ?_, ?_, ?_, ?_, ?_⟩
    · rw [upd_n (by omega), upd_n (by omega), upd_n (by omega), upd_n (by omega), upd_n (by omega), upd_n (by omega)]
    · rw [upd_n (by omega), upd_n (by omega), upd_n (by omega), upd_n (by omega), upd_n (by omega), upd_s]
    · rw [upd_n (by omega), upd_n (by omega), upd_n (by omega), upd_n (by omega), upd_s]
    · rw [upd_n (by omega), upd_n (by omega), upd_n (by omega), upd_s]
    · rw [upd_n (by omega), upd_n (by omega), upd_s]
    · rw [upd_n (by omega), upd_s]
    · rw [upd_s]
theorem am_sw_comm (e : Nat → Int32) (a b : Nat) : am_sw e a b = am_sw e b a := by
  funext j
  rw [am_sw_at, am_sw_at]
  by_cases h1 : j = a
  · by_cases h2 : j = b
    · rw [if_pos h2, if_pos h1, ← h1, ← h2]
    · rw [if_neg h2, if_pos h1, if_pos h1]
  · by_cases h2 : j = b
    · rw [if_pos h2, if_neg h1, if_pos h2]
    · rw [if_neg h2, if_neg h1, if_neg h1, if_neg h2]
def mo_pr (b : Nat → Int32) (st : Nat → Nat) (t : Nat) : Int32 → Bool := fun x => bt (b (st x.toNatClampNeg)) t
theorem sp_11_parts {d P q u v t : Nat} {st td fs sn : Nat → Nat} {S : Nat → Bool} {σ : am_St} (hS : mo_Sm σ P q st td fs sn) (ht : t < 32) (hv : v ≤ 200) (hE : am_En (am_A σ 16 34) u v P S) : am_C true ya_11_parts (d + 1) [.ref (am_oid 16), .int (nI t), .int (nI u), .int (nI v)] σ (fun r τ => ∃ (m : Nat) (e : Nat → Int32), r = some (.int (nI m)) ∧ τ = am_sA σ 16 34 e ∧ am_Pt (am_A σ 16 34) e u v v m P S (mo_pr (am_A σ 16 18) st t)) := by
  have hP := hS.1
  have eK : ∀ (L : Nat → Int32) (k : Nat), k ≠ 34 → am_A (am_sA σ 16 34 L) 16 k = am_A σ 16 k := fun L k h => by rw [am_A_sA, if_neg (fun z => h z.1)]
  have eL : ∀ L : Nat → Int32, am_A (am_sA σ 16 34 L) 16 34 = L := fun L => by rw [am_A_sA, if_pos ⟨rfl, rfl⟩]
  have loop : ∀ (j i m : Nat) (e : Nat → Int32) (a6 : Option Value), i + j = v → am_Pt (am_A σ 16 34) e u v i m P S (mo_pr (am_A σ 16 18) st t) → am_T true ya_11_parts (d + 1) (fun r τ => ∃ (m : Nat) (e : Nat → Int32), r = some (.int (nI m)) ∧ τ = am_sA σ 16 34 e ∧ am_Pt (am_A σ 16 34) e u v v m P S (mo_pr (am_A σ 16 18) st t)) 6 [some (.ref (am_oid 16)), some (.int (nI t)), some (.int (nI u)), some (.int (nI v)), some (.int (nI m)), some (.int (nI i)), a6] [] (am_sA σ 16 34 e) := by
    intro j
    induction j with
    | zero =>
      intro i m e a6 hi h
      have : i = v := by omega
      subst this
      exact kb_11_parts_6 (kt := fun _ => kb_11_parts_71 ⟨m, e, rfl, rfl, h⟩) (kf := fun z => absurd (nI_le (by omega) (by omega)) z)
    | succ j ih =>
      intro i m e a6 hi h
      have hui : u ≤ i := Nat.le_trans h.1 h.2.1
      have hmi : m ≤ i := h.2.1
      obtain ⟨z, z1, z2, z3⟩ := h.2.2.2.1.2.1 i hui (by omega)
      have c0 : am_A (am_sA σ 16 34 e) 16 34 (nI i).toNatClampNeg = nI z := by rw [eL, nI_clamp (by omega)]; exact z2
      have vi : vp_in (nI i) 200 := vp_in_nI (by omega) (by omega)
      have vm : vp_in (nI m) 200 := vp_in_nI (by omega) (by omega)
      have hpr : mo_pr (am_A σ 16 18) st t (e i) = bt (am_A σ 16 18 (st z)) t := by unfold mo_pr; rw [z2, nI_clamp (by omega)]
      have so := sp_11_isSo (d := d) (hS.same (eK e 25 (by decide))) z1 ht
      rw [eK e 18 (by decide)] at so
      refine kb_11_parts_6 (kt := fun y => absurd y (nI_ge (by omega) (by omega))) (kf := fun _ => ?_)
      refine kb_11_parts_12 (hi0 := vi) (hC := by rw [c0]; exact so) (k := fun r τ hr => ?_)
      obtain ⟨rfl, rfl⟩ := hr
      cases hb : bt (am_A σ 16 18 (st z)) t with
      | false =>
        refine kb_11_parts_24 (kt := fun y => absurd rfl y) (kf := fun _ => kb_11_parts_27 (k := kb_11_parts_65 (k := ?_)))
        rw [nI_1]
        exact ih (i + 1) m e _ (by omega) (am_Pt_f h (by omega) (by rw [hpr]; exact hb))
      | true =>
        refine kb_11_parts_24 (kt := fun _ => ?_) (kf := fun y => absurd y (by decide))
        refine kb_11_parts_30 (hi0 := vm) (hi2 := vi) (hi3 := vm) (hi4 := vi) (k := kb_11_parts_65 (k := ?_))
        rw [nI_1, nI_1, eL, nI_clamp (show i < 2 ^ 31 by omega), nI_clamp (show m < 2 ^ 31 by omega), am_sA_sA, am_sA_sA]
        have := ih (i + 1) (m + 1) (am_sw e i m) (some (.int (e m))) (by omega) (am_Pt_t h (by omega) (by rw [hpr]; exact hb))
        rw [am_sw_comm] at this
        exact this
  refine am_enter rfl (by simp [Value.category]) (Nat.le_of_ble_eq_true rfl) (kb_11_parts_0 (k := ?_))
  have := loop (v - u) u u (am_A σ 16 34) none (by have := hE.1; omega) (am_Pt_0 _ hE)
  rw [am_sA_id] at this
  exact this
/-- what a fitting of the reference has before it and behind it -/
def mo_J (σ : am_St) (P q T : Nat) (st td fs sn : Nat → Nat) (bp : Nat → Int32) (al : Nat → Bool) (care : Bool) : Prop := mo_Sm σ P q st td fs sn ∧ (∀ i, am_A σ 16 18 (st i) = bp i) ∧ am_A σ 16 3 4 = nI T ∧ (∀ t, t < T → (nI t = am_I σ 16 30) = (al t = false)) ∧ am_I σ 16 28 = am_bI care
abbrev mo_FF := mo_Fr [33] [31, 32, 34, 35]
theorem mo_J.same {σ τ : am_St} {P q T : Nat} {st td fs sn : Nat → Nat} {bp : Nat → Int32} {al : Nat → Bool} {care : Bool} (h : mo_J σ P q T st td fs sn bp al care) (hf : mo_FF σ τ) : mo_J τ P q T st td fs sn bp al care := by
  obtain ⟨h1, h2, h3, h4, h5⟩ := h
  exact ⟨h1.same (hf.2.1 25 rfl), fun i => by rw [hf.2.1 18 rfl]; exact h2 i, by rw [hf.2.1 3 rfl]; exact h3, fun t ht => by rw [hf.1 30 rfl]; exact h4 t ht, by rw [hf.1 28 rfl]; exact h5⟩
def mo_G (σ : am_St) (P q : Nat) (fs sn : Nat → Nat) (g b : Nat → Bool) (n : Nat) : Prop := mo_Lb (am_A σ 16 31) P g b ∧ (∀ i, P ≤ i → g i = false ∧ b i = false) ∧ am_Cl q fs sn g ∧ am_Cl q sn fs b ∧ am_I σ 16 33 = nI n
def mo_FQ (σ : am_St) (P q u v n : Nat) (fs sn : Nat → Nat) (x : Option ft_Sg) : Option Value → am_St → Prop := fun r τ => mo_FF σ τ ∧ (x = none → r = some (.int (-1))) ∧ ∀ s, x = some s → r = some (.int (nI n)) ∧ mo_G τ P q fs sn s.1 s.2.1 s.2.2.1 ∧ (∀ i, n ≤ i → i < s.2.2.1 → ∀ f, f < 6 → am_A τ 16 32 (6 * i + f) = s.2.2.2 i f) ∧ (∀ j, j < 6 * n → am_A τ 16 32 j = am_A σ 16 32 j) ∧ ∀ j, j < u ∨ v ≤ j → am_A τ 16 34 j = am_A σ 16 34 j
theorem am_En_same {e e' : Nat → Int32} {u v P : Nat} {S : Nat → Bool} (h : am_En e u v P S) (he : ∀ j, u ≤ j → j < v → e' j = e j) : am_En e' u v P S := by
  obtain ⟨y0, y1, y2, y3⟩ := h
  refine ⟨y0, fun j c1 c2 => ?_, fun i hi => ?_, fun j j' c1 c2 c3 c4 => ?_⟩
  · rw [he j c1 c2]; exact y1 j c1 c2
  · obtain ⟨x1, j, x2, x3, x4⟩ := y2 i hi
    exact ⟨x1, j, x2, x3, by rw [he j x2 x3]; exact x4⟩
  · rw [he j c1 c2, he j' c3 c4]; exact y3 j j' c1 c2 c3 c4
theorem sp_11_fits {d P q T : Nat} {care : Bool} {st td fs sn : Nat → Nat} {bp : Nat → Int32} {al : Nat → Bool} (hT2 : T ≤ 16) : ∀ (f : Nat) (S : Nat → Bool) (u v n dep : Nat) (par : Option Nat) (sd : Bool) (g b : Nat → Bool) (nd : Nat → Nat → Int32) (σ : am_St),
    mo_J σ P q T st td fs sn bp al care → mo_G σ P q fs sn g b n → am_En (am_A σ 16 34) u v P S → v ≤ 200 → (∀ p, par = some p → p < n) → n + 2 * max 1 (am_cn S P) ≤ 401 → dep + f = 17 → 17 ≤ f + am_cn (fun t => ft_cs P S (fun i => bt (bp i) t)) T → ft_dp nd par = nI dep →
    am_C true ya_11_fits (d + f + 3) [.ref (am_oid 16), .int (nI u), .int (nI v), .int (nI dep)] σ (mo_FQ σ P q u v n fs sn (ft_F P q T fs sn (fun i t => bt (bp i) t) al care f S par sd (g, b, n, nd))) := by
  intro f
  induction f with
  | zero =>
    intro S u v n dep par sd g b nd σ hJ hG hE hv hp hn hd hcs
    have := am_cn_le (fun t => ft_cs P S (fun i => bt (bp i) t)) T
    omega
  | succ f ih =>
    intro S u v n dep par sd g b nd σ hJ hG hE hv hp hn hd hcs hdp
    obtain ⟨hS, hbp, hT, hal, hcare⟩ := hJ
    have hJ : mo_J σ P q T st td fs sn bp al care := ⟨hS, hbp, hT, hal, hcare⟩
    obtain ⟨hL, hz, hcg, hcb, h33⟩ := hG
    have hP := hS.1
    have sz := am_En_size (by omega) hE
    have huv := hE.1
    generalize hF : ft_F P q T fs sn (fun i t => bt (bp i) t) al care (f + 1) S par sd (g, b, n, nd) = X
    have hF' : (if ft_kd care (ft_no P S b) (ft_no P S g) = 2 then
      (match ft_bst al (fun t => ft_cost P q fs sn S g b (fun i => bt (bp i) t)) T with
      | none => none
      | some p => match ft_F P q T fs sn (fun i t => bt (bp i) t) al care f (fun i => S i && bt (bp i) p.1) (some n) true (g, b, n + 1, ft_nw (ft_sp nd par sd n) n 2 (nI p.1) (nI (am_cn S P)) (ft_dp nd par) (ft_pI par)) with
        | none => none
        | some s2 => ft_F P q T fs sn (fun i t => bt (bp i) t) al care f (fun i => S i && !bt (bp i) p.1) (some n) false s2)
    else some (if ft_kd care (ft_no P S b) (ft_no P S g) = 1 then am_clo q fs sn (ft_or g S) else g, if ft_kd care (ft_no P S b) (ft_no P S g) = 1 then b else am_clo q sn fs (ft_or b S), n + 1, ft_nw (ft_sp nd par sd n) n (ft_kd care (ft_no P S b) (ft_no P S g)) (-2) (nI (am_cn S P)) (ft_dp nd par) (ft_pI par))) = X := hF
    -- a leaf's cells
    have cell : ∀ (F : Nat → Int32) (kd : Int32), F (6 * n) = kd → F (6 * n + 1) = -2 → F (6 * n + 2) = -2 → F (6 * n + 3) = -2 → F (6 * n + 4) = nI v - nI u → F (6 * n + 5) = nI dep → ∀ i, n ≤ i → i < n + 1 → ∀ f, f < 6 → F (6 * i + f) = ft_nw (ft_sp nd par sd n) n kd (-2) (nI (am_cn S P)) (ft_dp nd par) (ft_pI par) i f := by
      intro F kd f0 f1 f2 f3 f4 f5 i hi1 hi2 ff hff
      have : i = n := by omega
      subst this
      unfold ft_nw
      rw [if_pos rfl]
      match ff, hff with
      | 0, _ => exact f0
      | 1, _ => exact f1
      | 2, _ => exact f2
      | 3, _ => exact f3
      | 4, _ => rw [nI_sub huv, sz] at f4; exact f4
      | 5, _ => rw [← hdp] at f5; exact f5
    have leaf1 : ft_kd care (ft_no P S b) (ft_no P S g) = 1 → ∀ (a4 a5 : Option Value), am_T true ya_11_fits (d + (f + 1) + 3) (mo_FQ σ P q u v n fs sn X) 35 [some (.ref (am_oid 16)), some (.int (nI u)), some (.int (nI v)), some (.int (nI dep)), a4, a5, none, none, none, none, none] [] σ := by
      intro hk a4 a5
      rw [if_neg (by rw [hk]; decide), if_pos hk, if_pos hk, hk] at hF'
      refine kb_11_fits_35 (hC := sp_11_becomes1 hS hv hE hL hz hcb) (k := fun r τ hr => ?_)
      obtain ⟨rfl, L, rfl, hL', hz'⟩ := hr
      refine kb_11_fits_42 (hC := sp_11_makes (n := n) h33 (by omega)) (k := fun r τ hr => ?_)
      obtain ⟨rfl, F, rfl, f0, f1, f2, f3, f4, f5, f6⟩ := hr
      refine kb_11_fits_53 ⟨((mo_Fr.rf.sA (by rfl) L).sA (by rfl) F).sI (by rfl) _, fun z => ?_, fun s hs => ?_⟩
      · rw [← hF'] at z; cases z
      · rw [← hF'] at hs
        injection hs with hs
        subst hs
        refine ⟨rfl, ⟨?_, hz', (am_clo_ls q fs sn (ft_or g S)).2.1, hcb, ?_⟩, ?_, ?_, ?_⟩
        · rw [am_A_sI, am_A_sA, if_neg (by simp), am_A_sA, if_pos ⟨rfl, rfl⟩]; exact hL'
        · rw [am_I_sI, if_pos ⟨rfl, rfl⟩]
        · intro i h1 h2 ff hff
          rw [am_A_sI, am_A_sA, if_pos ⟨rfl, rfl⟩]
          exact cell F 1 f1 f2 f3 f4 f5 f6 i h1 h2 ff hff
        · intro j hj
          rw [am_A_sI, am_A_sA, if_pos ⟨rfl, rfl⟩, f0 j hj, am_A_sA, if_neg (by simp)]
        · intro j _
          rw [am_A_sI, am_A_sA, if_neg (by simp), am_A_sA, if_neg (by simp)]
    have leaf0 : ft_kd care (ft_no P S b) (ft_no P S g) = 0 → ∀ (a4 a5 : Option Value), am_T true ya_11_fits (d + (f + 1) + 3) (mo_FQ σ P q u v n fs sn X) 59 [some (.ref (am_oid 16)), some (.int (nI u)), some (.int (nI v)), some (.int (nI dep)), a4, a5, none, none, none, none, none] [] σ := by
      intro hk a4 a5
      rw [if_neg (by rw [hk]; decide), if_neg (by rw [hk]; decide), if_neg (by rw [hk]; decide), hk] at hF'
      refine kb_11_fits_59 (hC := sp_11_becomes2 hS hv hE hL hz hcg) (k := fun r τ hr => ?_)
      obtain ⟨rfl, L, rfl, hL', hz'⟩ := hr
      refine kb_11_fits_66 (hC := sp_11_makes (n := n) h33 (by omega)) (k := fun r τ hr => ?_)
      obtain ⟨rfl, F, rfl, f0, f1, f2, f3, f4, f5, f6⟩ := hr
      refine kb_11_fits_77 ⟨((mo_Fr.rf.sA (by rfl) L).sA (by rfl) F).sI (by rfl) _, fun z => ?_, fun s hs => ?_⟩
      · rw [← hF'] at z; cases z
      · rw [← hF'] at hs
        injection hs with hs
        subst hs
        refine ⟨rfl, ⟨?_, hz', hcg, (am_clo_ls q sn fs (ft_or b S)).2.1, ?_⟩, ?_, ?_, ?_⟩
        · rw [am_A_sI, am_A_sA, if_neg (by simp), am_A_sA, if_pos ⟨rfl, rfl⟩]; exact hL'
        · rw [am_I_sI, if_pos ⟨rfl, rfl⟩]
        · intro i h1 h2 ff hff
          rw [am_A_sI, am_A_sA, if_pos ⟨rfl, rfl⟩]
          exact cell F 0 f1 f2 f3 f4 f5 f6 i h1 h2 ff hff
        · intro j hj
          rw [am_A_sI, am_A_sA, if_pos ⟨rfl, rfl⟩, f0 j hj, am_A_sA, if_neg (by simp)]
        · intro j _
          rw [am_A_sI, am_A_sA, if_neg (by simp), am_A_sA, if_neg (by simp)]
    have part : ft_kd care (ft_no P S b) (ft_no P S g) = 2 → ∀ (a4 : Option Value) (x5 : Int32), am_T true ya_11_fits (d + (f + 1) + 3) (mo_FQ σ P q u v n fs sn X) 78 [some (.ref (am_oid 16)), some (.int (nI u)), some (.int (nI v)), some (.int (nI dep)), a4, some (.int x5), none, none, none, none, none] [] σ := by
      intro hk a4 x5'
      rw [if_pos hk] at hF'
      have hcost : (fun t => ft_cost P q fs sn S g b (fun i => bt (am_A σ 16 18 (st i)) t)) = (fun t => ft_cost P q fs sn S g b (fun i => bt (bp i) t)) := by
        funext t; congr 1; funext i; rw [hbp i]
      refine kb_11_fits_78 (hC := sp_11_bestTest (al := al) hS hT hT2 hal hv hE hL) (k := fun r τ hr => ?_)
      rw [hcost] at hr
      obtain ⟨rfl, mf, rfl⟩ := hr
      cases hb : ft_bst al (fun t => ft_cost P q fs sn S g b (fun i => bt (bp i) t)) T with
      | none =>
        rw [hb] at hF'
        refine kb_11_fits_84 (kt := fun z => absurd rfl z) (kf := fun _ => kb_11_fits_92 ⟨mo_Fr.rf.sA (by rfl) mf, fun _ => rfl, fun s hs => ?_⟩)
        rw [← hF'] at hs; cases hs
      | some pc =>
        obtain ⟨p, c⟩ := pc
        rw [hb] at hF'
        simp only at hF'
        obtain ⟨hpT, -, hc⟩ := ft_bst_spec _ _ _ hb
        have hcc : ft_cost P q fs sn S g b (fun i => bt (bp i) p) = some c := hc
        obtain ⟨c1, c2⟩ := ft_cost_some hcc
        have sp := am_cn_split S (fun i => bt (bp i) p) P
        have m1 := ft_cs_more (bit := fun i t => bt (bp i) t) hpT hcc true
        have m0 := ft_cs_more (bit := fun i t => bt (bp i) t) hpT hcc false
        have e1 : (fun i => S i && (bt (bp i) p == true)) = fun i => S i && bt (bp i) p := by funext i; simp
        have e0 : (fun i => S i && (bt (bp i) p == false)) = fun i => S i && !bt (bp i) p := by funext i; simp
        rw [e1] at m1
        rw [e0] at m0
        refine kb_11_fits_84 (kt := fun _ => ?_) (kf := fun z => absurd z (nI_neg1 p (by omega)))
        refine kb_11_fits_94 (hC := sp_11_makes (n := n) h33 (by omega)) (k := fun r τ hr => ?_)
        obtain ⟨rfl, F, hτ, f0, f1, f2, f3, f4, f5, f6⟩ := hr
        have fr1 : mo_FF σ τ := by rw [hτ]; exact ((mo_Fr.rf.sA (by rfl) mf).sA (by rfl) F).sI (by rfl) _
        have a34 : am_A τ 16 34 = am_A σ 16 34 := by rw [hτ, am_A_sI, am_A_sA, if_neg (by simp), am_A_sA, if_neg (by simp)]
        have a31 : am_A τ 16 31 = am_A σ 16 31 := by rw [hτ, am_A_sI, am_A_sA, if_neg (by simp), am_A_sA, if_neg (by simp)]
        have a32 : am_A τ 16 32 = F := by rw [hτ, am_A_sI, am_A_sA, if_pos ⟨rfl, rfl⟩]
        have i33 : am_I τ 16 33 = nI (n + 1) := by rw [hτ, am_I_sI, if_pos ⟨rfl, rfl⟩]
        have f0' : ∀ j, j < 6 * n → F j = am_A σ 16 32 j := fun j hj => by rw [f0 j hj, am_A_sA, if_neg (by simp)]
        have hJ1 := hJ.same fr1
        refine kb_11_fits_105 (hC := sp_11_parts (t := p) hJ1.1 (by omega) hv (by rw [a34]; exact hE)) (k := fun r τ2 hr => ?_)
        obtain ⟨m, e, rfl, hτ2, hPt⟩ := hr
        have fr2 : mo_FF σ τ2 := by rw [hτ2]; exact fr1.sA (by rfl) e
        have hJ2 := hJ.same fr2
        obtain ⟨E1, E2⟩ := am_Pt_end (β := fun i => bt (bp i) p) (by omega) hPt (fun i hi => by unfold mo_pr; rw [nI_clamp (by omega), hJ1.2.1 i])
        have hm1 := E1.1
        have hm2 := E2.1
        have b34 : am_A τ2 16 34 = e := by rw [hτ2, am_A_sA, if_pos ⟨rfl, rfl⟩]
        have b31 : am_A τ2 16 31 = am_A σ 16 31 := by rw [hτ2, am_A_sA, if_neg (by simp), a31]
        have b32 : am_A τ2 16 32 = F := by rw [hτ2, am_A_sA, if_neg (by simp), a32]
        have j33 : am_I τ2 16 33 = nI (n + 1) := by rw [hτ2, am_I_sA, i33]
        obtain ⟨nd1, hnd1⟩ : ∃ nd1, nd1 = ft_nw (ft_sp nd par sd n) n 2 (nI p) (nI (am_cn S P)) (ft_dp nd par) (ft_pI par) := ⟨_, rfl⟩
        rw [← hnd1] at hF'
        have d1 : nd1 n 5 = nI dep := by rw [hnd1]; simp [ft_nw]; exact hdp
        have dp1 : ft_dp nd1 (some n) = nI (dep + 1) := by show nd1 n 5 + 1 = _; rw [d1, nI_1]
        have hG2 : mo_G τ2 P q fs sn g b (n + 1) := ⟨by rw [b31]; exact hL, hz, hcg, hcb, j33⟩
        have C1 := ih (fun i => S i && bt (bp i) p) u m (n + 1) (dep + 1) (some n) true g b nd1 τ2 hJ2 hG2 (by rw [b34]; exact E1) (by omega) (fun p' hp' => by injection hp' with hp'; omega) (by omega) (by omega) (by omega) dp1
        refine kb_11_fits_115 (hC := by rw [nI_1]; exact C1) (k := fun r τ3 hr => ?_)
        obtain ⟨fr3, n3, s3⟩ := hr
        have fr3' := fr2.tr fr3
        cases h2 : ft_F P q T fs sn (fun i t => bt (bp i) t) al care f (fun i => S i && bt (bp i) p) (some n) true (g, b, n + 1, nd1) with
        | none =>
          rw [h2] at hF'
          rw [n3 h2]
          refine kb_11_fits_127 (kt := fun z => absurd rfl z) (kf := fun _ => kb_11_fits_135 ⟨fr3', fun _ => rfl, fun s hs => ?_⟩)
          rw [← hF'] at hs; cases hs
        | some s2 =>
          rw [h2] at hF'
          simp only at hF'
          obtain ⟨r3, hG3, c3, o3, e3⟩ := s3 s2 h2
          rw [r3]
          obtain ⟨w1, w2⟩ := ft_F_n _ _ _ _ _ _ h2
          simp only at w1 w2
          obtain ⟨u1, -, -⟩ := ft_F_tr hT2 _ _ _ _ _ _ (dep + 1) h2 (fun z hz => by injection hz with hz; simp only; omega) dp1 (by omega)
          simp only at u1
          have x5 : s2.2.2.2 n 5 = nI dep := by
            rw [u1 n (by omega) 5]; show ft_st nd1 n 2 _ n 5 = _; unfold ft_st; rw [if_neg (by simp)]; exact d1
          have dp2 : ft_dp s2.2.2.2 (some n) = nI (dep + 1) := by show s2.2.2.2 n 5 + 1 = _; rw [x5, nI_1]
          refine kb_11_fits_127 (kt := fun _ => ?_) (kf := fun z => absurd z (nI_neg1 _ (by omega)))
          have C2 := ih (fun i => S i && !bt (bp i) p) m v s2.2.2.1 (dep + 1) (some n) false s2.1 s2.2.1 s2.2.2.2 τ3 (hJ.same fr3') hG3 (am_En_same E2 (fun j c1 c2 => by rw [e3 j (Or.inr c1), b34])) hv (fun p' hp' => by injection hp' with hp'; omega) (by omega) (by omega) (by omega) dp2
          refine kb_11_fits_137 (hC := by rw [nI_1]; exact C2) (k := fun r τ4 hr => ?_)
          obtain ⟨fr4, n4, s4⟩ := hr
          have fr4' := fr3'.tr fr4
          have x2 : (6 : Int32) * nI n + 2 = nI (6 * n + 2) := by rw [show (6 : Int32) = nI 6 from rfl, nI_mul]; exact nI_add _ 2
          have x3 : (6 : Int32) * nI n + 3 = nI (6 * n + 3) := by rw [show (6 : Int32) = nI 6 from rfl, nI_mul]; exact nI_add _ 3
          have v2 : vp_in ((6 : Int32) * nI n + 2) 2412 := by rw [x2]; exact vp_in_nI (by omega) (by omega)
          have v3 : vp_in ((6 : Int32) * nI n + 3) 2412 := by rw [x3]; exact vp_in_nI (by omega) (by omega)
          cases h3 : ft_F P q T fs sn (fun i t => bt (bp i) t) al care f (fun i => S i && !bt (bp i) p) (some n) false s2 with
          | none =>
            rw [h3] at hF'
            rw [n4 h3]
            refine kb_11_fits_147 (hi1 := v2) (hi2 := v3) (kt := fun z => absurd rfl z) (kf := fun _ => kb_11_fits_183 (k := kb_11_fits_189 ⟨(fr4'.sA (by rfl) _).sA (by rfl) _, fun _ => rfl, fun s hs => ?_⟩))
            rw [← hF'] at hs; cases hs
          | some s =>
            rw [h3] at hF'
            obtain ⟨r4, hG4, c4, o4, e4⟩ := s4 s h3
            rw [r4]
            obtain ⟨w3, w4⟩ := ft_F_n _ _ _ _ _ _ h3
            obtain ⟨v1, -, -⟩ := ft_F_tr hT2 _ _ _ _ _ _ (dep + 1) h3 (fun z hz => by injection hz with hz; omega) dp2 (by omega)
            refine kb_11_fits_147 (hi1 := v2) (hi2 := v3) (kt := fun _ => ?_) (kf := fun z => absurd z (nI_neg1 _ (by omega)))
            rw [x2, x3, nI_clamp (by omega), nI_clamp (by omega), am_sA_sA]
            refine kb_11_fits_187 (k := kb_11_fits_189 ⟨fr4'.sA (by rfl) _, fun z => ?_, fun s' hs' => ?_⟩)
            · rw [← hF'] at z; cases z
            · rw [← hF'] at hs'
              injection hs' with hs'
              subst hs'
              have b : ∀ k, k ≠ 32 → ∀ G : Nat → Int32, am_A (am_sA τ4 16 32 G) 16 k = am_A τ4 16 k := fun k hk G => by rw [am_A_sA, if_neg (fun z => hk z.1)]
              obtain ⟨g1, g2, g3, g4, g5⟩ := hG4
              refine ⟨rfl, ⟨by rw [b 31 (by decide)]; exact g1, g2, g3, g4, g5⟩, fun i hi1 hi2 ff hff => ?_, fun j hj => ?_, fun j hj => ?_⟩
              · rw [am_A_sA, if_pos ⟨rfl, rfl⟩]
                by_cases ci : i = n
                · subst ci
                  have old : ∀ ff, ff < 6 → ff ≠ 2 → ff ≠ 3 → am_A τ4 16 32 (6 * i + ff) = F (6 * i + ff) := fun ff hff h2 h3 => by rw [o4 _ (by omega), o3 _ (by omega), b32]
                  have sv : ∀ ff, ff ≠ 2 → ff ≠ 3 → s.2.2.2 i ff = nd1 i ff := fun ff h2 h3 => by
                    rw [v1 i (by omega) ff]; show ft_st s2.2.2.2 i 3 _ i ff = _; unfold ft_st; rw [if_neg (by omega), u1 i (by omega) ff]; show ft_st nd1 i 2 _ i ff = _; unfold ft_st; rw [if_neg (by omega)]
                  match ff, hff with
                  | 0, _ => rw [upd_n (by omega), upd_n (by omega), old 0 (by omega) (by omega) (by omega), sv 0 (by omega) (by omega), hnd1]; simp [ft_nw]; exact f1
                  | 1, _ => rw [upd_n (by omega), upd_n (by omega), old 1 (by omega) (by omega) (by omega), sv 1 (by omega) (by omega), hnd1]; simp [ft_nw]; exact f2
                  | 2, _ =>
                    rw [upd_n (by omega), upd_s, v1 i (by omega) 2]; show _ = ft_st s2.2.2.2 i 3 _ i 2; unfold ft_st; rw [if_neg (by omega), u1 i (by omega) 2]; show _ = ft_st nd1 i 2 _ i 2; unfold ft_st; rw [if_pos ⟨rfl, rfl⟩]
                  | 3, _ =>
                    rw [upd_s, v1 i (by omega) 3]; show _ = ft_st s2.2.2.2 i 3 _ i 3; unfold ft_st; rw [if_pos ⟨rfl, rfl⟩]
                  | 4, _ => rw [upd_n (by omega), upd_n (by omega), old 4 (by omega) (by omega) (by omega), sv 4 (by omega) (by omega), hnd1]; simp [ft_nw]; rw [f5, nI_sub huv, sz]
                  | 5, _ => rw [upd_n (by omega), upd_n (by omega), old 5 (by omega) (by omega) (by omega), sv 5 (by omega) (by omega), hnd1]; simp [ft_nw]; rw [f6, hdp]
                · rw [upd_n (by omega), upd_n (by omega)]
                  rcases Nat.lt_or_ge i s2.2.2.1 with y | y
                  · rw [o4 _ (by omega), c3 i (by omega) y ff hff, v1 i y ff]
                    show _ = ft_st s2.2.2.2 n 3 _ i ff
                    unfold ft_st; rw [if_neg (by omega)]
                  · exact c4 i y hi2 ff hff
              · rw [am_A_sA, if_pos ⟨rfl, rfl⟩, upd_n (by omega), upd_n (by omega), o4 j (by omega), o3 j (by omega), b32]
                exact f0' j hj
              · rw [b 34 (by decide), e4 j (by omega), e3 j (by omega), b34, hPt.2.2.2.2.2.2 j hj, a34]
    refine am_enter rfl (by simp [Value.category]) (Nat.le_of_ble_eq_true rfl) ?_
    refine kb_11_fits_0 (hC := sp_11_isNone (p := b) hP hv hE (fun i hi => by rw [hL i hi]; exact (am_lb_and _ _).1)) (k := fun r τ hr => ?_)
    obtain ⟨rfl, rfl⟩ := hr
    refine kb_11_fits_7 (hC := sp_11_isNone (p := g) hP hv hE (fun i hi => by rw [hL i hi]; exact (am_lb_and _ _).2)) (k := fun r τ' hr => ?_)
    obtain ⟨rfl, rfl⟩ := hr
    generalize ft_no P S b = nb at leaf0 leaf1 part
    generalize ft_no P S g = ng at leaf0 leaf1 part
    cases nb with
    | false =>
      refine kb_11_fits_16 (kt := fun _ => ?_) (kf := fun z => absurd rfl z)
      cases ng with
      | false => exact kb_11_fits_54 (kt := fun _ => part (by cases care <;> rfl) _ _) (kf := fun z => absurd rfl z)
      | true => exact kb_11_fits_54 (kt := fun z => absurd z (by decide)) (kf := fun _ => leaf0 (by cases care <;> rfl) _ _)
    | true =>
      refine kb_11_fits_16 (kt := fun z => absurd z (by decide)) (kf := fun _ => ?_)
      cases care with
      | false => exact kb_11_fits_23 (kt := fun _ => leaf1 rfl _ _) (kf := fun z => absurd hcare z)
      | true =>
        refine kb_11_fits_23 (kt := fun z => absurd (hcare.symm.trans z) (by decide)) (kf := fun _ => ?_)
        cases ng with
        | false => exact kb_11_fits_30 (kt := fun z => absurd rfl z) (kf := fun _ => leaf1 rfl _ _)
        | true => exact kb_11_fits_30 (kt := fun _ => kb_11_fits_54 (kt := fun z => absurd z (by decide)) (kf := fun _ => leaf0 rfl _ _)) (kf := fun z => absurd z (by decide))
