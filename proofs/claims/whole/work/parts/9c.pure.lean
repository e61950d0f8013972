/-! what holds of all that is learned -/
section PURE
variable {N K T : Nat} {tb : Nat → Int32} {fl : Nat → Nat → Bool} {nx : Nat → Nat → Option Nat} {al : Nat → Bool} {care order : Bool}
theorem te_ask_en {held : Nat → Bool} {x : sm_T} : (te_ask N K fl nx held order x).2.1 = 0 ∨ (te_ask N K fl nx held order x).2.1 = 1 ∨ (te_ask N K fl nx held order x).2.1 = 4 := by
  unfold te_ask
  cases te_fs order N (fun s => fl s 0 && (held s == false)) with
  | some s =>
    dsimp only
    cases te_tell x s 1 with
    | some p => exact Or.inl rfl
    | none => exact Or.inr (Or.inr rfl)
  | none =>
    dsimp only
    cases te_fs order N (fun s => fl s 1 && (held s == true)) with
    | some s =>
      dsimp only
      cases te_tell x s 2 with
      | some p => exact Or.inl rfl
      | none => exact Or.inr (Or.inr rfl)
    | none =>
      dsimp only
      cases te_fs order N (fun s => (if held s = true then te_lv nx held s K 0 else none).isSome) with
      | none => exact Or.inr (Or.inl rfl)
      | some s =>
        dsimp only
        cases te_lv nx held s K 0 with
        | none => exact Or.inr (Or.inl rfl)
        | some t =>
          dsimp only
          cases te_pair x s t with
          | some p => exact Or.inl rfl
          | none => exact Or.inr (Or.inr rfl)
theorem lr_ok_0 : lr_ok lr_0 := ⟨fun z => absurd z (Nat.lt_irrefl 0), fun z => absurd z (by decide), fun z => absurd z (by decide)⟩
theorem lr_ok.rd {y : lr_T} (hT : T ≤ 16) (h : lr_ok y) : lr_ok (lr_rd N K T tb fl nx al care order y) := by
  unfold lr_rd
  by_cases c : lr_us y.1.1 y.1.2.2.2.1 (lr_g y.1) = true
  · rw [if_pos c]
    exact ⟨h.1, fun _ => c, fun z => absurd (show (2 : Int32) = 1 from z) (by decide)⟩
  · rw [if_neg c]
    cases hf : lr_fit T tb al care y.1 with
    | none => exact ⟨h.1, fun z => absurd (show (3 : Int32) = 2 from z) (by decide), fun z => absurd (show (3 : Int32) = 1 from z) (by decide)⟩
    | some s =>
      have sb := lr_fit_sb hT hf
      refine ⟨fun _ => sb, fun z => ?_, fun _ => sb.lt 17⟩
      have z' : (te_ask N K fl nx (fun z => tr_hd s.2.2.1 s.2.2.2 (tb z)) order y.1).2.1 = 2 := z
      exfalso
      rcases te_ask_en (N := N) (K := K) (fl := fl) (nx := nx) (order := order) (held := fun z => tr_hd s.2.2.1 s.2.2.2 (tb z)) (x := y.1) with e | e | e
      · rw [e] at z'; exact absurd z' (by decide)
      · rw [e] at z'; exact absurd z' (by decide)
      · rw [e] at z'; exact absurd z' (by decide)
theorem lr_ok.rds (hT : T ≤ 16) : ∀ (n : Nat) {y : lr_T}, lr_ok y → lr_ok (lr_rds N K T tb fl nx al care order n y).1 := by
  intro n
  induction n with
  | zero => intro y h; exact h
  | succ n ih =>
    intro y h
    unfold lr_rds
    by_cases c : y.2.2.1 = 0
    · rw [if_pos c]; exact ih (h.rd hT)
    · rw [if_neg c]; exact h
theorem lr_rds_e {y : lr_T} (h : y.2.2.1 ≠ 0) : ∀ n, (lr_rds N K T tb fl nx al care order n y).1 = y := by
  intro n
  cases n with
  | zero => rfl
  | succ n => unfold lr_rds; rw [if_neg h]
theorem lr_ok.learn {y : lr_T} (hT : T ≤ 16) (h : lr_ok y) (x : Int32) : lr_ok (v_learn N K T tb fl nx al care order y x).1 := by
  unfold v_learn
  by_cases c : x < 1 ∨ ¬ x ≤ 100
  · rw [if_pos c]; exact h
  · rw [if_neg c]; exact h.rds hT _
theorem v_learn_e {y : lr_T} (h : y.2.2.1 ≠ 0) (x : Int32) : (v_learn N K T tb fl nx al care order y x).1 = y := by
  unfold v_learn
  by_cases c : x < 1 ∨ ¬ x ≤ 100
  · rw [if_pos c]
  · rw [if_neg c]; exact lr_rds_e h _
theorem lr_ok.run {y : lr_T} (h : lr_ok y) (x1 x2 : Int32) : lr_ok (rn_all N K fl nx y x1 x2).1 := by
  unfold rn_all
  by_cases c : x1 < 0 ∨ x2 < 0 ∨ 100 < x2 ∨ y.2.2.1 ≠ 0
  · rw [if_pos c]; exact h
  · rw [if_neg c]
    have e : y.2.2.1 = 0 := by
      by_cases e : y.2.2.1 = 0
      · exact e
      · exact absurd (Or.inr (Or.inr (Or.inr e))) c
    exact ⟨h.1, fun z => absurd (e.symm.trans (show y.2.2.1 = 2 from z)) (by decide), fun z => absurd (e.symm.trans (show y.2.2.1 = 1 from z)) (by decide)⟩
theorem rn_all_e {y : lr_T} (h : y.2.2.1 ≠ 0) (x1 x2 : Int32) : (rn_all N K fl nx y x1 x2).1 = y := by
  unfold rn_all
  rw [if_pos (Or.inr (Or.inr (Or.inr h)))]
theorem sh_Ok.eo {σ τ : am_St} {Rs : List (List Nat)} (h : sh_Ok σ N K tb fl nx Rs) (hE : am_Eo 14 σ τ) : sh_Ok τ N K tb fl nx Rs := by
  obtain ⟨h1, h2, h3, h4⟩ := h
  refine ⟨h1, by rw [hE.1]; exact h2, fun j hj => ?_, ?_⟩
  · have := h3 j hj
    unfold sh_Re at this ⊢
    simpa only [hE.1, hE.2.1] using this
  · unfold sh_Cv at h4 ⊢
    simpa only [hE.1, hE.2.1] using h4
theorem cl_s.eo {σ τ : am_St} {y y' : lr_T} (h : cl_s σ N K tb fl nx y) (hE : am_Eo 14 σ τ) (hy : y.2.2.1 ≠ 0 → y' = y) : cl_s τ N K tb fl nx y' := by
  rcases h with h | ⟨h1, h2, h3⟩
  · exact Or.inl (by rw [hE.1]; exact h)
  · have e := hy (by rw [h2]; decide)
    rw [e]
    exact Or.inr ⟨by rw [hE.1]; exact h1, h2, h3.eo hE⟩
end PURE
