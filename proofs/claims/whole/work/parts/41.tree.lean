/-! a tree's cells; Tree.addNode; Fitter.takeAll -/
def am_Tr (σ : am_St) (t n : Nat) (nd : Nat → Nat → Int32) : Prop := am_k false t = 8 ∧ n ≤ 400 ∧ am_I σ t 0 = nI n ∧ ∀ i, i < n → ∀ f, f < 7 → am_A σ t (1 + f) i = nd i f
/-- only the object t has changed -/
def am_On (t : Nat) (σ τ : am_St) : Prop := (∀ o k, o ≠ t → am_I τ o k = am_I σ o k) ∧ (∀ o k, o ≠ t → am_A τ o k = am_A σ o k) ∧ τ.2.2 = σ.2.2
def ft_nw (nd : Nat → Nat → Int32) (n : Nat) (kd ts sz dep par : Int32) : Nat → Nat → Int32 := fun i f => if i = n then (if f = 0 then kd else if f = 1 then ts else if f = 2 then -2 else if f = 3 then -2 else if f = 4 then sz else if f = 5 then dep else par) else nd i f
/-- a pointer of the node p -/
def ft_st (nd : Nat → Nat → Int32) (p f : Nat) (x : Int32) : Nat → Nat → Int32 := fun i g => if i = p ∧ g = f then x else nd i g
def ft_sp (nd : Nat → Nat → Int32) (par : Option Nat) (sd : Bool) (n : Nat) : Nat → Nat → Int32 := match par with
  | none => nd
  | some p => ft_st nd p (if sd = true then 2 else 3) (nI n)
def ft_pI (par : Option Nat) : Int32 := match par with
  | none => -1
  | some p => nI p
def ft_dp (nd : Nat → Nat → Int32) (par : Option Nat) : Int32 := match par with
  | none => 0
  | some p => nd p 5 + 1
theorem sp_8_addNode {d t n : Nat} {nd : Nat → Nat → Int32} {x1 x2 x5 : Int32} {par : Option Nat} {sd : Bool} {σ : am_St} (h : am_Tr σ t n nd) (hn : n < 400) (hp : ∀ p, par = some p → p < n) : am_C false ya_8_addNode d [.ref (am_oid t), .int x1, .int x2, .int (ft_pI par), .int (am_bI sd), .int x5] σ (fun r τ => r = some (.int (nI n)) ∧ am_On t σ τ ∧ am_Tr τ t (n + 1) (ft_nw (ft_sp nd par sd n) n x1 x2 x5 (ft_dp nd par) (ft_pI par))) := by
  obtain ⟨ht, hn4, hI, hA⟩ := h
  have e400 : (400 : Int32) = nI 400 := by decide
  have vn : vp_in (am_I σ t 0) 400 := by rw [hI]; exact vp_in_nI hn (by omega)
  refine am_enter rfl (by simp [Value.category]) (Nat.le_of_ble_eq_true rfl) ?_
  refine kb_8_addNode_0 (kt := fun _ => ?_) (kf := fun z => absurd ?_ z)
  · refine kb_8_addNode_12 (hi1 := vn) (hi2 := vn) (hi3 := vn) (hi4 := vn) (hi5 := vn) (hi6 := vn) (hi7 := vn) (kt := fun z => ?_) (kf := fun z => ?_)
    · cases par with
      | some p => exact absurd z (nI_pos (by have := hp p rfl; omega))
      | none =>
        rw [hI, nI_clamp (by omega)]
        refine kb_8_addNode_120 (hq := ⟨rfl, ⟨fun o k ho => ?_, fun o k ho => ?_, rfl⟩, ht, hn, ?_, fun i hi f hf => ?_⟩)
        · simp [am_I_sI, am_I_sA, ho]
        · simp [am_A_sI, am_A_sA, ho]
        · simp only [am_I_sI, am_I_sA, and_self, if_true]
          rw [hI, nI_1]
        · by_cases c : i = n
          · subst c
            match f, hf with
            | 0, _ => simp [am_A_sI, am_A_sA, upd, ft_nw]
            | 1, _ => simp [am_A_sI, am_A_sA, upd, ft_nw]
            | 2, _ => simp [am_A_sI, am_A_sA, upd, ft_nw]
            | 3, _ => simp [am_A_sI, am_A_sA, upd, ft_nw]
            | 4, _ => simp [am_A_sI, am_A_sA, upd, ft_nw]
            | 5, _ => simp [am_A_sI, am_A_sA, upd, ft_nw, ft_dp]
            | 6, _ => simp [am_A_sI, am_A_sA, upd, ft_nw]
          · have hh := hA i (by omega) f hf
            match f, hf, hh with
            | 0, _, hh => simp [am_A_sI, am_A_sA, upd, ft_nw, ft_sp, c]; exact hh
            | 1, _, hh => simp [am_A_sI, am_A_sA, upd, ft_nw, ft_sp, c]; exact hh
            | 2, _, hh => simp [am_A_sI, am_A_sA, upd, ft_nw, ft_sp, c]; exact hh
            | 3, _, hh => simp [am_A_sI, am_A_sA, upd, ft_nw, ft_sp, c]; exact hh
            | 4, _, hh => simp [am_A_sI, am_A_sA, upd, ft_nw, ft_sp, c]; exact hh
            | 5, _, hh => simp [am_A_sI, am_A_sA, upd, ft_nw, ft_sp, c]; exact hh
            | 6, _, hh => simp [am_A_sI, am_A_sA, upd, ft_nw, ft_sp, c]; exact hh
    · cases par with
      | none => exact absurd am_neg1 z
      | some p =>
        have hpn := hp p rfl
        have hpn' : p ≠ n := by omega
        have vp : vp_in (nI p) 400 := vp_in_nI (by omega) (by omega)
        rw [show ft_pI (some p) = nI p from rfl, hI, nI_clamp (by omega)]
        have h5 := hA p hpn 5 (by decide)
        have h5' : am_A σ t 6 p = nd p 5 := h5
        refine kb_8_addNode_81 (hi0 := vp) (hi1 := vp_in_nI hn (by omega)) (kt := fun z => ?_) (kf := fun z => ?_)
        · cases sd with
          | true => exact absurd z (by decide)
          | false =>
            rw [nI_clamp (show n < 2 ^ 31 by omega), nI_clamp (show p < 2 ^ 31 by omega)]
            refine kb_8_addNode_112 (hi0 := vp) (k := kb_8_addNode_120 (hq := ⟨rfl, ⟨fun o k ho => ?_, fun o k ho => ?_, rfl⟩, ht, hn, ?_, fun i hi f hf => ?_⟩))
            · simp [am_I_sI, am_I_sA, ho]
            · simp [am_A_sI, am_A_sA, ho]
            · simp only [am_I_sI, am_I_sA, and_self, if_true]
              rw [hI, nI_1]
            · rw [nI_clamp (show p < 2 ^ 31 by omega)]
              by_cases c : i = n
              · subst c
                match f, hf with
                | 0, _ => simp [am_A_sI, am_A_sA, upd, ft_nw]
                | 1, _ => simp [am_A_sI, am_A_sA, upd, ft_nw]
                | 2, _ => simp [am_A_sI, am_A_sA, upd, ft_nw]
                | 3, _ => simp [am_A_sI, am_A_sA, upd, ft_nw, Ne.symm hpn']
                | 4, _ => simp [am_A_sI, am_A_sA, upd, ft_nw]
                | 5, _ => simp [am_A_sI, am_A_sA, upd, ft_nw, ft_dp, hpn', h5']
                | 6, _ => simp [am_A_sI, am_A_sA, upd, ft_nw]
              · have hh := hA i (by omega) f hf
                match f, hf, hh with
                | 0, _, hh => simp [am_A_sI, am_A_sA, upd, ft_nw, ft_sp, ft_st, c]; exact hh
                | 1, _, hh => simp [am_A_sI, am_A_sA, upd, ft_nw, ft_sp, ft_st, c]; exact hh
                | 2, _, hh => simp [am_A_sI, am_A_sA, upd, ft_nw, ft_sp, ft_st, c]; exact hh
                | 3, _, hh =>
                  have hh' : am_A σ t 4 i = nd i 3 := hh
                  simp [am_A_sI, am_A_sA, upd, ft_nw, ft_sp, ft_st, c, hh']
                | 4, _, hh => simp [am_A_sI, am_A_sA, upd, ft_nw, ft_sp, ft_st, c]; exact hh
                | 5, _, hh => simp [am_A_sI, am_A_sA, upd, ft_nw, ft_sp, ft_st, c]; exact hh
                | 6, _, hh => simp [am_A_sI, am_A_sA, upd, ft_nw, ft_sp, ft_st, c]; exact hh
        · cases sd with
          | false => exact absurd rfl z
          | true =>
            rw [nI_clamp (show n < 2 ^ 31 by omega), nI_clamp (show p < 2 ^ 31 by omega)]
            refine kb_8_addNode_101 (hi0 := vp) (k := kb_8_addNode_120 (hq := ⟨rfl, ⟨fun o k ho => ?_, fun o k ho => ?_, rfl⟩, ht, hn, ?_, fun i hi f hf => ?_⟩))
            · simp [am_I_sI, am_I_sA, ho]
            · simp [am_A_sI, am_A_sA, ho]
            · simp only [am_I_sI, am_I_sA, and_self, if_true]
              rw [hI, nI_1]
            · rw [nI_clamp (show p < 2 ^ 31 by omega)]
              by_cases c : i = n
              · subst c
                match f, hf with
                | 0, _ => simp [am_A_sI, am_A_sA, upd, ft_nw]
                | 1, _ => simp [am_A_sI, am_A_sA, upd, ft_nw]
                | 2, _ => simp [am_A_sI, am_A_sA, upd, ft_nw, Ne.symm hpn']
                | 3, _ => simp [am_A_sI, am_A_sA, upd, ft_nw]
                | 4, _ => simp [am_A_sI, am_A_sA, upd, ft_nw]
                | 5, _ => simp [am_A_sI, am_A_sA, upd, ft_nw, ft_dp, hpn', h5']
                | 6, _ => simp [am_A_sI, am_A_sA, upd, ft_nw]
              · have hh := hA i (by omega) f hf
                match f, hf, hh with
                | 0, _, hh => simp [am_A_sI, am_A_sA, upd, ft_nw, ft_sp, ft_st, c]; exact hh
                | 1, _, hh => simp [am_A_sI, am_A_sA, upd, ft_nw, ft_sp, ft_st, c]; exact hh
                | 2, _, hh =>
                  have hh' : am_A σ t 3 i = nd i 2 := hh
                  simp [am_A_sI, am_A_sA, upd, ft_nw, ft_sp, ft_st, c, hh']
                | 3, _, hh => simp [am_A_sI, am_A_sA, upd, ft_nw, ft_sp, ft_st, c]; exact hh
                | 4, _, hh => simp [am_A_sI, am_A_sA, upd, ft_nw, ft_sp, ft_st, c]; exact hh
                | 5, _, hh => simp [am_A_sI, am_A_sA, upd, ft_nw, ft_sp, ft_st, c]; exact hh
                | 6, _, hh => simp [am_A_sI, am_A_sA, upd, ft_nw, ft_sp, ft_st, c]; exact hh
  · rw [hI, e400]; exact nI_lt hn (by omega)
