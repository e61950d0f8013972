/-! samples as a value; telling, adding, pairing -/
abbrev sm_T : Type := Nat × Nat × (Nat → Nat) × (Nat → Nat) × (Nat → Nat) × (Nat → Nat)
def am_SmT (σ : am_St) (o : Nat) (x : sm_T) : Prop := am_Sm σ o x.1 x.2.1 x.2.2.1 x.2.2.2.1 x.2.2.2.2.1 x.2.2.2.2.2
def sm_find (st : Nat → Nat) (P s : Nat) : Option Nat := am_fd (fun i => st i == s) P 0
theorem am_Sm.inj {σ : am_St} {o P q : Nat} {st td fs sn : Nat → Nat} (h : am_Sm σ o P q st td fs sn) {i j : Nat} (hi : i < P) (hj : j < P) (e : st i = st j) : i = j := by
  obtain ⟨-, hP, -, -, -, -, -, -, h9, -⟩ := h
  have a := h9 i hi
  have b := h9 j hj
  rw [e, b] at a
  exact (nI_inj (by omega) (by omega) a).symm
theorem am_Sm.find {σ : am_St} {o P q : Nat} {st td fs sn : Nat → Nat} (h : am_Sm σ o P q st td fs sn) {i s : Nat} (hi : i < P) (e : st i = s) : sm_find st P s = some i := by
  cases hf : sm_find st P s with
  | none =>
    have := am_fd_none _ _ hf i (Nat.zero_le _) (by omega)
    simp [e] at this
  | some j =>
    obtain ⟨-, c2, c3⟩ := am_fd_some _ _ hf
    have : st j = s := by simpa using c3
    rw [h.inj (by omega) hi (this.trans e.symm)]
theorem sm_find_none {st : Nat → Nat} {P s : Nat} (h : ∀ i, i < P → st i ≠ s) : sm_find st P s = none := by
  cases hf : sm_find st P s with
  | none => rfl
  | some j =>
    obtain ⟨-, c2, c3⟩ := am_fd_some _ _ hf
    exact absurd (by simpa using c3) (h j (by omega))
def te_tell (x : sm_T) (s w : Nat) : Option (sm_T × Nat) := match sm_find x.2.2.1 x.1 s with
  | some i => some ((x.1, x.2.1, x.2.2.1, am_un x.2.2.2.1 i (x.2.2.2.1 i ||| w), x.2.2.2.2), i)
  | none => if x.1 < 200 then some ((x.1 + 1, x.2.1, am_un x.2.2.1 x.1 s, am_un x.2.2.2.1 x.1 w, x.2.2.2.2), x.1) else none
def te_add (x : sm_T) (s : Nat) : sm_T × Nat := match sm_find x.2.2.1 x.1 s with
  | some i => (x, i)
  | none => ((x.1 + 1, x.2.1, am_un x.2.2.1 x.1 s, am_un x.2.2.2.1 x.1 0, x.2.2.2.2), x.1)
def te_new (x : sm_T) (s : Nat) : Nat := match sm_find x.2.2.1 x.1 s with
  | some _ => 0
  | none => 1
def te_pair (x : sm_T) (s t : Nat) : Option (sm_T × Nat × Nat) :=
  if 200 < x.1 + (te_new x s + te_new x t) ∨ 300 ≤ x.2.1 then none
  else some (((te_add (te_add x s).1 t).1.1, x.2.1 + 1, (te_add (te_add x s).1 t).1.2.2.1, (te_add (te_add x s).1 t).1.2.2.2.1, am_un x.2.2.2.2.1 x.2.1 (te_add x s).2, am_un x.2.2.2.2.2 x.2.1 (te_add (te_add x s).1 t).2), (te_add x s).2, (te_add (te_add x s).1 t).2)
theorem am_un_un (f : Nat → Nat) (k a b : Nat) : am_un (am_un f k a) k b = am_un f k b := by
  funext i; unfold am_un; split <;> rfl
/-- all but the samples o -/
def am_Bo (o : Nat) (σ τ : am_St) : Prop := (∀ o' k, o' ≠ o → am_I τ o' k = am_I σ o' k) ∧ (∀ o' k, o' ≠ o → am_A τ o' k = am_A σ o' k) ∧ τ.2.2 = σ.2.2
theorem sm_add_bo (σ : am_St) (o s P : Nat) : am_Bo o σ (sm_add σ o s P) := by
  refine ⟨fun o' k h => ?_, fun o' k h => ?_, rfl⟩
  · unfold sm_add; simp [am_I_sI, am_I_sA, h]
  · unfold sm_add; simp [am_A_sI, am_A_sA, h]
theorem sm_tell_bo (σ : am_St) (o p x : Nat) : am_Bo o σ (sm_tell σ o p x) := by
  refine ⟨fun o' k h => rfl, fun o' k h => ?_, rfl⟩
  unfold sm_tell; simp [am_A_sA, h]
theorem sm_pair_bo (σ : am_St) (o f s q : Nat) : am_Bo o σ (sm_pair σ o f s q) := by
  refine ⟨fun o' k h => ?_, fun o' k h => ?_, rfl⟩
  · unfold sm_pair; simp [am_I_sI, am_I_sA, h]
  · unfold sm_pair; simp [am_A_sI, am_A_sA, h]
theorem am_Bo.rf {o : Nat} {σ : am_St} : am_Bo o σ σ := ⟨fun _ _ _ => rfl, fun _ _ _ => rfl, rfl⟩
theorem am_Bo.tr {o : Nat} {σ τ υ : am_St} (h : am_Bo o σ τ) (h' : am_Bo o τ υ) : am_Bo o σ υ := ⟨fun o' k z => (h'.1 o' k z).trans (h.1 o' k z), fun o' k z => (h'.2.1 o' k z).trans (h.2.1 o' k z), h'.2.2.trans h.2.2⟩
theorem sp_tell {d o N s w : Nat} {x : sm_T} {σ : am_St} (h : am_SmT σ o x) (hN : N ≤ 600) (hst : ∀ i, i < x.1 → x.2.2.1 i < N) (hs : s < N) (hw : w < 4) {Q : Option Value → am_St → Prop}
    (k0 : te_tell x s w = none → Q (some (.int (-1))) σ) (k1 : ∀ x' i, te_tell x s w = some (x', i) → ∀ τ, am_SmT τ o x' → (∀ j, j < x'.1 → x'.2.2.1 j < N) → i < 200 → am_Bo o σ τ → Q (some (.int (nI i))) τ) : am_C false ya_5_tell (d + 1) [.ref (am_oid o), .int (nI s), .int (nI w)] σ Q := by
  obtain ⟨P, q, st, td, fs, sn⟩ := x
  dsimp only [am_SmT] at h hst
  have hP := h.2.1
  refine sp_5_tell h s w (by omega) hw (fun i hi e => ?_) (fun c1 c2 => ?_) (fun c1 c2 => ?_)
  · have hf := h.find hi e
    obtain ⟨-, -, -, h4⟩ := h.2.2.2.2.2.1 i hi
    refine k1 (P, q, st, am_un td i (td i ||| w), fs, sn) i (by unfold te_tell; dsimp only; rw [hf]) _ ?_ hst (by omega) (sm_tell_bo _ _ _ _)
    exact sm_tell_ok h (nI_or h4 hw).2
  · refine k0 ?_
    unfold te_tell
    dsimp only
    rw [sm_find_none c1]
    exact if_neg (by omega)
  · refine k1 (P + 1, q, am_un st P s, am_un td P w, fs, sn) P ?_ _ ?_ (fun j hj => ?_) (by omega) ((sm_add_bo _ _ _ _).tr (sm_tell_bo _ _ _ _))
    · unfold te_tell
      dsimp only
      rw [sm_find_none c1]
      exact if_pos c2
    · have a := sm_add_ok h (show s < 600 by omega) c1 c2
      have b := sm_tell_ok (p := P) a hw
      rw [am_un_un] at b
      exact b
    · dsimp only at hj ⊢
      by_cases c : j = P
      · subst c; rw [am_un_s]; exact hs
      · rw [am_un_n c]; exact hst j (by omega)
theorem sp_add {d o N s : Nat} {x : sm_T} {σ : am_St} (h : am_SmT σ o x) (hN : N ≤ 600) (hst : ∀ i, i < x.1 → x.2.2.1 i < N) (hs : s < N) (hr : x.1 + te_new x s ≤ 200) {Q : Option Value → am_St → Prop}
    (k1 : ∀ τ, am_SmT τ o (te_add x s).1 → (∀ j, j < (te_add x s).1.1 → (te_add x s).1.2.2.1 j < N) → (te_add x s).2 < (te_add x s).1.1 → x.1 ≤ (te_add x s).1.1 → am_Bo o σ τ → Q (some (.int (nI (te_add x s).2))) τ) : am_C false ya_5_addPoint d [.ref (am_oid o), .int (nI s)] σ Q := by
  obtain ⟨P, q, st, td, fs, sn⟩ := x
  dsimp only [am_SmT] at h hst
  have hP := h.2.1
  refine sp_5_addPoint h s (by omega) (fun i hi e => ?_) (fun c1 c2 => ?_) (fun c1 c2 => ?_)
  · have hf := h.find hi e
    have ea : te_add (P, q, st, td, fs, sn) s = ((P, q, st, td, fs, sn), i) := by unfold te_add; dsimp only; rw [hf]
    rw [ea] at k1
    exact k1 σ h hst hi (Nat.le_refl _) am_Bo.rf
  · have en : te_new (P, q, st, td, fs, sn) s = 1 := by unfold te_new; dsimp only; rw [sm_find_none c1]
    rw [en] at hr
    dsimp only at hr
    omega
  · have ea : te_add (P, q, st, td, fs, sn) s = ((P + 1, q, am_un st P s, am_un td P 0, fs, sn), P) := by unfold te_add; dsimp only; rw [sm_find_none c1]
    rw [ea] at k1
    refine k1 _ (sm_add_ok h (show s < 600 by omega) c1 c2) (fun j hj => ?_) (by dsimp only; omega) (by dsimp only; omega) (sm_add_bo _ _ _ _)
    dsimp only at hj ⊢
    by_cases c : j = P
    · subst c; rw [am_un_s]; exact hs
    · rw [am_un_n c]; exact hst j (by omega)
/-! the learner's own cells -/
def le_tr (L t : Nat) : Prop := (L = 6 ∧ (t = 10 ∨ t = 11)) ∨ (L = 7 ∧ (t = 12 ∨ t = 13))
theorem le_tr.k {L t : Nat} (h : le_tr L t) : am_k false t = 8 := by rcases h with ⟨-, rfl | rfl⟩ | ⟨-, rfl | rfl⟩ <;> rfl
theorem le_tr.ne {L t : Nat} (h : le_tr L t) : t ≠ L ∧ t ≠ L + 2 ∧ t ≠ 5 ∧ t ≠ 4 ∧ t ≠ 0 := by rcases h with ⟨rfl, rfl | rfl⟩ | ⟨rfl, rfl | rfl⟩ <;> decide
def le_C (σ : am_St) (L : Nat) (x : sm_T) (n : Nat) (nd : Nat → Nat → Int32) (en rd b0 b1 b2 : Int32) (care order : Bool) (tm : Int32) (N : Nat) : Prop :=
  (L = 6 ∨ L = 7) ∧ am_SmT σ (L + 2) x ∧ (∀ i, i < x.1 → x.2.2.1 i < N) ∧ le_tr L (am_R σ L 3) ∧ le_tr L (am_R σ L 4) ∧ am_R σ L 3 ≠ am_R σ L 4 ∧ am_Tr σ (am_R σ L 3) n nd ∧ tr_al n nd ∧ am_I σ L 9 = en ∧ am_I σ L 10 = rd ∧ am_I σ L 11 = b0 ∧ am_I σ L 12 = b1 ∧ am_I σ L 13 = b2 ∧ am_I σ L 6 = am_bI care ∧ am_I σ L 7 = am_bI order ∧ am_I σ L 8 = tm
/-- what a learner's work leaves as it was -/
def le_own (L o : Nat) : Prop := o = L ∨ o = L + 2 ∨ o = 5 ∨ le_tr L o
def le_Fr (L : Nat) (σ τ : am_St) : Prop := ∀ o, ¬ le_own L o → (∀ k, am_I τ o k = am_I σ o k) ∧ (∀ k, am_A τ o k = am_A σ o k) ∧ am_J τ o = am_J σ o ∧ ∀ k, am_R τ o k = am_R σ o k
theorem le_Fr.rf {L : Nat} {σ : am_St} : le_Fr L σ σ := fun _ _ => ⟨fun _ => rfl, fun _ => rfl, rfl, fun _ => rfl⟩
theorem le_Fr.tr {L : Nat} {σ τ υ : am_St} (h : le_Fr L σ τ) (h' : le_Fr L τ υ) : le_Fr L σ υ := fun o ho => ⟨fun k => ((h' o ho).1 k).trans ((h o ho).1 k), fun k => ((h' o ho).2.1 k).trans ((h o ho).2.1 k), (h' o ho).2.2.1.trans (h o ho).2.2.1, fun k => ((h' o ho).2.2.2 k).trans ((h o ho).2.2.2 k)⟩
/-- the samples have changed, and ints of L -/
theorem le_C.upd {σ τ : am_St} {L : Nat} {x x' : sm_T} {n : Nat} {nd : Nat → Nat → Int32} {en rd b0 b1 b2 en' rd' b0' b1' b2' : Int32} {care order : Bool} {tm : Int32} {N : Nat} (h : le_C σ L x n nd en rd b0 b1 b2 care order tm N) (hS : am_SmT τ (L + 2) x') (hst : ∀ i, i < x'.1 → x'.2.2.1 i < N)
    (hI : ∀ o k, o ≠ L + 2 → o ≠ L → am_I τ o k = am_I σ o k) (hA : ∀ o k, o ≠ L + 2 → o ≠ L → am_A τ o k = am_A σ o k) (hR : ∀ o k, am_R τ o k = am_R σ o k) (h6 : ∀ k, 6 ≤ k → k < 9 → am_I τ L k = am_I σ L k) (g9 : am_I τ L 9 = en') (g10 : am_I τ L 10 = rd') (g11 : am_I τ L 11 = b0') (g12 : am_I τ L 12 = b1') (g13 : am_I τ L 13 = b2') : le_C τ L x' n nd en' rd' b0' b1' b2' care order tm N := by
  obtain ⟨c1, c2, c3, c4, c5, c6, c7, c8, -, -, -, -, -, c14, c15, c16⟩ := h
  have n3 := c4.ne
  refine ⟨c1, hS, hst, by rw [hR]; exact c4, by rw [hR]; exact c5, by rw [hR, hR]; exact c6, ?_, c8, g9, g10, g11, g12, g13, by rw [h6 6 (by decide) (by decide)]; exact c14, by rw [h6 7 (by decide) (by decide)]; exact c15, by rw [h6 8 (by decide) (by decide)]; exact c16⟩
  rw [hR]
  exact c7.same (hI _ _ n3.2.1 n3.1) (fun k => hA _ _ n3.2.1 n3.1)
theorem sp_1_bring {d L : Nat} {x1 x2 x3 : Int32} {σ : am_St} (hL : L = 6 ∨ L = 7) : am_C false ya_1_bring d [.ref (am_oid L), .int x1, .int x2, .int x3] σ (fun r τ => r = none ∧ τ = am_sI (am_sI (am_sI σ L 11 x1) L 12 x2) L 13 x3) := by
  obtain ⟨c1, -⟩ := le_lk hL
  exact am_enter rfl (by simp [Value.category]) (Nat.le_of_ble_eq_true rfl) (kb_1_bring_0 (hq := ⟨rfl, rfl⟩))
