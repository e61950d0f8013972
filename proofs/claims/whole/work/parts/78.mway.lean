/-! THE REFERENCE: laysFar, nextOf, trace -/
def lf_Inv (P q : Nat) (bad : Nat → Bool) (fs sn : Nat → Nat) (f : Nat → Option Nat) (e : Nat) : Prop :=
  (∀ i, P ≤ i → f i = none) ∧ (∀ i, i < P → (f i = some 0 ↔ bad i = true)) ∧ (∀ i e, f i = some (e + 1) → ∃ k, k < q ∧ fs k = i ∧ f (sn k) = some e) ∧ (∀ i x, f i = some x → x < e) ∧ ∀ k x, k < q → f (sn k) = some x → x + 1 < e → ∃ x', x' ≤ x + 1 ∧ f (fs k) = some x'
/-- within one pass: f0 before it, f now, k0 pairs looked at -/
def lf_Ps (q : Nat) (fs sn : Nat → Nat) (f0 f : Nat → Option Nat) (e k0 : Nat) : Prop :=
  (∀ i x, f0 i = some x → f i = some x) ∧ (∀ i x, f i = some x → f0 i = some x ∨ (f0 i = none ∧ x = e ∧ ∃ k, k < q ∧ fs k = i ∧ f0 (sn k) = some (e - 1))) ∧ ∀ k, k < k0 → f0 (sn k) = some (e - 1) → ∃ x, f (fs k) = some x
section LF
variable {P q : Nat} {bad : Nat → Bool} {fs sn : Nat → Nat} {f f0 : Nat → Option Nat} {e : Nat}
theorem lf_end (h : lf_Inv P q bad fs sn f e) (hp : lf_Ps q fs sn f f e q) : ds_ok P q bad fs sn f := by
  obtain ⟨h1, h2, h3, h4, h5⟩ := h
  refine ⟨h1, h2, h3, fun k x hk hx => ?_⟩
  have := h4 _ _ hx
  by_cases c : x + 1 < e
  · exact h5 k x hk hx c
  · have hxe : x = e - 1 := by omega
    obtain ⟨x2, hx2⟩ := hp.2.2 k hk (by rw [← hxe]; exact hx)
    have := h4 _ _ hx2
    exact ⟨x2, by omega, hx2⟩
theorem lf_more (h : lf_Inv P q bad fs sn f0 e) (he : 1 ≤ e) (hab : ∀ k, k < q → fs k < P ∧ sn k < P) (hp : lf_Ps q fs sn f0 f e q) : lf_Inv P q bad fs sn f (e + 1) := by
  obtain ⟨h1, h2, h3, h4, h5⟩ := h
  obtain ⟨p1, p2, p3⟩ := hp
  have lt : ∀ i x, f i = some x → x < e + 1 := fun i x hx => by
    rcases p2 i x hx with c | ⟨-, c, -⟩
    · have := h4 i x c; omega
    · omega
  refine ⟨fun i hi => ?_, fun i hi => ?_, fun i x hx => ?_, lt, fun k x hk hx hxe => ?_⟩
  · cases hc : f i with
    | none => rfl
    | some x =>
      rcases p2 i x hc with c | ⟨-, -, k, k1, k2, -⟩
      · rw [h1 i hi] at c; cases c
      · have := (hab k k1).1; omega
  · constructor
    · intro hx
      rcases p2 i 0 hx with c | ⟨-, c, -⟩
      · exact (h2 i hi).mp c
      · omega
    · intro hx; exact p1 i 0 ((h2 i hi).mpr hx)
  · rcases p2 i _ hx with c | ⟨-, c, k, k1, k2, k3⟩
    · obtain ⟨k, k1, k2, k3⟩ := h3 i x c
      exact ⟨k, k1, k2, p1 _ _ k3⟩
    · refine ⟨k, k1, k2, p1 _ _ ?_⟩
      rw [k3]; congr 1; omega
  · have hx0 : f0 (sn k) = some x := by
      rcases p2 _ _ hx with c | ⟨-, c, -⟩
      · exact c
      · omega
    by_cases c : x + 1 < e
    · obtain ⟨x', a, b⟩ := h5 k x hk hx0 c
      exact ⟨x', a, p1 _ _ b⟩
    · have hxe : x = e - 1 := by omega
      obtain ⟨x2, hx2⟩ := p3 k hk (by rw [← hxe]; exact hx0)
      have := lt _ _ hx2
      exact ⟨x2, by omega, hx2⟩
end LF
section MWAY
variable {d P q : Nat} {bad : Nat → Bool} {st td fs sn : Nat → Nat} {σ : am_St} {f : Nat → Option Nat}
theorem sp_11_laysFar (hS : mo_Sm σ P q st td fs sn) : am_C true ya_11_laysFar d [.ref (am_oid 16)] σ (fun r τ => r = none ∧ ∃ (f : Nat → Option Nat) (F : Nat → Int32), ds_ok P q (am_tg td 2 P) fs sn f ∧ (∀ i e, f i = some e → e < 202) ∧ (∀ i, i < P → F i = am_oI (-1) (f i)) ∧ τ = am_sA σ 16 37 F) := by
  obtain ⟨hP, hq, k0, k1, hpt, hpr⟩ := hS
  have hab : ∀ k, k < q → fs k < P ∧ sn k < P := fun k hk => (hpr k hk).2.2
  generalize hQ : (fun (r : Option Value) (τ : am_St) => r = none ∧ ∃ (f : Nat → Option Nat) (F : Nat → Int32), ds_ok P q (am_tg td 2 P) fs sn f ∧ (∀ i e, f i = some e → e < 202) ∧ (∀ i, i < P → F i = am_oI (-1) (f i)) ∧ τ = am_sA σ 16 37 F) = Q
  have eK : ∀ F : Nat → Int32, am_A (am_sA σ 16 37 F) 16 25 = am_A σ 16 25 := fun F => by rw [am_A_sA, if_neg (by simp)]
  have eL : ∀ F : Nat → Int32, am_A (am_sA σ 16 37 F) 16 37 = F := fun F => by rw [am_A_sA, if_pos ⟨rfl, rfl⟩]
  have passes : ∀ (m e : Nat) (f0 : Nat → Option Nat) (F : Nat → Int32), 1 ≤ e → e + m = P + 2 → P + 1 ≤ am_cn (fun i => (f0 i).isSome) P + m → lf_Inv P q (am_tg td 2 P) fs sn f0 e → (∀ i, i < P → F i = am_oI (-1) (f0 i)) → ∀ a3 a4 : Option Value, am_T true ya_11_laysFar d Q 48 [some (.ref (am_oid 16)), some (.int 1), some (.int (nI e)), a3, a4] [] (am_sA σ 16 37 F) := by
    intro m
    induction m with
    | zero =>
      intro e f0 F _ _ hc
      have := am_cn_le (fun i => (f0 i).isSome) P
      omega
    | succ m ihm =>
      intro e f0 F he hem hcm hI hF a3 a4
      have h4 := hI.2.2.2.1
      have lt2 : ∀ (f : Nat → Option Nat) (k : Nat), lf_Ps q fs sn f0 f e k → ∀ i x, f i = some x → x < 202 := fun f k hp i x hx => by
        rcases hp.2.1 i x hx with c | ⟨-, c, -⟩
        · have := h4 i x c; omega
        · omega
      have loop : ∀ (j k : Nat), k + j = q → ∀ (f : Nat → Option Nat) (F : Nat → Int32) (mo : Bool), lf_Ps q fs sn f0 f e k → (∀ i, i < P → F i = am_oI (-1) (f i)) → (mo = false → f = f0) → (mo = true → am_cn (fun i => (f0 i).isSome) P + 1 ≤ am_cn (fun i => (f i).isSome) P) → am_cn (fun i => (f0 i).isSome) P ≤ am_cn (fun i => (f i).isSome) P → ∀ a4 : Option Value, am_T true ya_11_laysFar d Q 56 [some (.ref (am_oid 16)), some (.int (am_bI mo)), some (.int (nI e)), some (.int (nI k)), a4] [] (am_sA σ 16 37 F) := by
        intro j
        induction j with
        | zero =>
          intro k hk f F mo hp hFf m0 m1 m2 a4
          have : k = q := by omega
          subst this
          refine kb_11_laysFar_56 (kt := fun _ => kb_11_laysFar_129 (k := ?_)) (kf := fun z => absurd (by rw [eK, k1]; exact nI_le (by omega) (by omega)) z)
          rw [nI_1]
          cases mo with
          | false =>
            have := m0 rfl
            subst this
            refine kb_11_laysFar_48 (kt := fun _ => kb_11_laysFar_135 (hq := ?_)) (kf := fun z => absurd rfl z)
            rw [← hQ]
            exact ⟨rfl, f, F, lf_end hI hp, lt2 f k hp, hFf, rfl⟩
          | true =>
            exact ihm (e + 1) f F (by omega) (by omega) (by have := m1 rfl; omega) (lf_more hI he hab hp) hFf _ _
        | succ j ih =>
          intro k hk f F mo hp hFf m0 m1 m2 a4
          obtain ⟨p1, p2, p3, p4⟩ := hpr k (by omega)
          have lt := lt2 f k hp
          have x1 : (408 : Int32) + nI k = nI (408 + k) := nI_add 408 k
          have x2 : (708 : Int32) + nI k = nI (708 + k) := nI_add 708 k
          have y1 : am_A (am_sA σ 16 37 F) 16 25 ((408 : Int32) + nI k).toNatClampNeg = nI (fs k) := by rw [x1, nI_clamp (by omega), eK]; exact p1
          have y2 : am_A (am_sA σ 16 37 F) 16 25 ((708 : Int32) + nI k).toNatClampNeg = nI (sn k) := by rw [x2, nI_clamp (by omega), eK]; exact p2
          have f1 : am_A (am_sA σ 16 37 F) 16 37 (am_A (am_sA σ 16 37 F) 16 25 ((408 : Int32) + nI k).toNatClampNeg).toNatClampNeg = am_oI (-1) (f (fs k)) := by rw [y1, nI_clamp (by omega), eL]; exact hFf _ p3
          have f2 : am_A (am_sA σ 16 37 F) 16 37 (am_A (am_sA σ 16 37 F) 16 25 ((708 : Int32) + nI k).toNatClampNeg).toNatClampNeg = am_oI (-1) (f (sn k)) := by rw [y2, nI_clamp (by omega), eL]; exact hFf _ p4
          have ee : nI e - 1 = nI (e - 1) := by
            obtain ⟨e', rfl⟩ : ∃ e', e = e' + 1 := ⟨e - 1, by omega⟩
            exact nI_pred e'
          have step : ∀ (f' : Nat → Option Nat) (F' : Nat → Int32) (mo' : Bool), lf_Ps q fs sn f0 f' e k → (f0 (sn k) = some (e - 1) → ∃ x, f' (fs k) = some x) → (∀ i, i < P → F' i = am_oI (-1) (f' i)) → (mo' = false → f' = f0) → (mo' = true → am_cn (fun i => (f0 i).isSome) P + 1 ≤ am_cn (fun i => (f' i).isSome) P) → am_cn (fun i => (f0 i).isSome) P ≤ am_cn (fun i => (f' i).isSome) P → ∀ a4 : Option Value, am_T true ya_11_laysFar d Q 123 [some (.ref (am_oid 16)), some (.int (am_bI mo')), some (.int (nI e)), some (.int (nI k)), a4] [] (am_sA σ 16 37 F') := fun f' F' mo' hp' hk' hF' m0' m1' m2' a4 => by
            refine kb_11_laysFar_123 (k := ?_)
            rw [nI_1]
            refine ih (k + 1) (by omega) f' F' mo' ⟨hp'.1, hp'.2.1, fun k' h1 h2 => ?_⟩ hF' m0' m1' m2' _
            rcases Nat.lt_or_ge k' k with c | c
            · exact hp'.2.2 k' c h2
            · have : k' = k := by omega
              rw [this] at h2 ⊢; exact hk' h2
          refine kb_11_laysFar_56 (kt := fun z => absurd z (by rw [eK, k1]; exact nI_ge (by omega) (by omega))) (kf := fun _ => ?_)
          refine kb_11_laysFar_66 (hi0 := by rw [x1]; exact vp_in_nI (by omega) (by omega)) (hi1 := by rw [y1]; exact vp_in_nI (by omega) (by omega)) (kt := fun z => ?_) (kf := fun z => ?_)
          · rw [f1] at z
            refine step f F mo hp (fun _ => ?_) hFf m0 m1 m2 _
            cases hc : f (fs k) with
            | none => rw [hc] at z; exact absurd rfl z
            | some x => exact ⟨x, rfl⟩
          · rw [f1] at z
            have hc : f (fs k) = none := by
              cases hc : f (fs k) with
              | none => rfl
              | some x => rw [hc] at z; exact absurd z (nI_neg1 x (by have := lt _ _ hc; omega))
            have iff : (am_oI (-1) (f (sn k)) = nI (e - 1)) ↔ f0 (sn k) = some (e - 1) := by
              constructor
              · intro h
                cases hs : f (sn k) with
                | none => rw [hs] at h; exact absurd h.symm (nI_neg1 _ (by omega))
                | some x =>
                  rw [hs] at h
                  have := lt _ _ hs
                  have hxe : x = e - 1 := nI_inj (by omega) (by omega) h
                  subst hxe
                  rcases hp.2.1 _ _ hs with c | ⟨-, c, -⟩
                  · exact c
                  · omega
              · intro h; rw [hp.1 _ _ h]; rfl
            refine kb_11_laysFar_89 (hi0 := by rw [x2]; exact vp_in_nI (by omega) (by omega)) (hi1 := by rw [y2]; exact vp_in_nI (by omega) (by omega)) (kt := fun y => ?_) (kf := fun y => ?_)
            · rw [f2, ee, iff] at y
              rw [y1]
              refine kb_11_laysFar_113 (hi0 := vp_in_nI (by omega) (by omega)) (k := ?_)
              rw [am_sA_sA, eL, nI_clamp (show fs k < 2 ^ 31 by omega)]
              have cnt : am_cn (fun i => ((fun i => if i = fs k then some e else f i) i).isSome) P = am_cn (fun i => (f i).isSome) P + 1 := am_cn_add p3 (by simp only [hc]; rfl) (by simp) (fun j hj => by simp only [if_neg hj])
              have h0 : f0 (fs k) = none := by
                cases h0 : f0 (fs k) with
                | none => rfl
                | some x => rw [hp.1 _ _ h0] at hc; cases hc
              refine step (fun i => if i = fs k then some e else f i) (upd F (fs k) (nI e)) true ⟨fun i x hx => ?_, fun i x hx => ?_, fun k' h1 h2 => ?_⟩ (fun _ => ⟨e, by rw [if_pos rfl]⟩) (fun i hi => ?_) (fun z => by cases z) (fun _ => by rw [cnt]; omega) (by rw [cnt]; omega) _
              · try dsimp only
                rw [if_neg (fun c => by rw [c, h0] at hx; cases hx)]; exact hp.1 i x hx
              · try dsimp only at hx
                by_cases c : i = fs k
                · rw [if_pos c] at hx
                  injection hx with hx
                  exact Or.inr ⟨by rw [c]; exact h0, hx.symm, k, by omega, c.symm, y⟩
                · rw [if_neg c] at hx; exact hp.2.1 i x hx
              · try dsimp only
                obtain ⟨x, hx⟩ := hp.2.2 k' h1 h2
                by_cases c : fs k' = fs k
                · exact ⟨e, by rw [if_pos c]⟩
                · exact ⟨x, by rw [if_neg c]; exact hx⟩
              · try dsimp only
                by_cases c : i = fs k
                · rw [c, upd_s, if_pos rfl]; rfl
                · rw [upd_n c, if_neg c]; exact hFf i hi
            · rw [f2, ee, iff] at y
              exact kb_11_laysFar_110 (k := step f F mo hp (fun h => absurd h y) hFf m0 m1 m2 _)
      refine kb_11_laysFar_48 (kt := fun z => absurd z (by decide)) (kf := fun _ => kb_11_laysFar_52 (k := ?_))
      have := loop q 0 (by omega) f0 F false ⟨fun _ _ h => h, fun _ _ h => Or.inl h, fun k hk => absurd hk (Nat.not_lt_zero k)⟩ hF (fun _ => rfl) (fun z => by cases z) (Nat.le_refl _) a4
      rw [nI_0] at this
      exact this
  have first : ∀ (j i : Nat), i + j = P → ∀ (F : Nat → Int32), (∀ z, z < i → F z = if am_bt 2 (nI (td z)) = true then 0 else -1) → ∀ a2 a3 a4 : Option Value, am_T true ya_11_laysFar d Q 2 [some (.ref (am_oid 16)), some (.int (nI i)), a2, a3, a4] [] (am_sA σ 16 37 F) := by
    intro j
    induction j with
    | zero =>
      intro i hi F hF a2 a3 a4
      have : i = P := by omega
      subst this
      refine kb_11_laysFar_2 (kt := fun _ => kb_11_laysFar_44 (k := ?_)) (kf := fun z => absurd (by rw [eK, k0]; exact nI_le (by omega) (by omega)) z)
      refine passes (i + 1) 1 (fun z => if z < i ∧ am_bt 2 (nI (td z)) = true then some 0 else none) F (Nat.le_refl _) (by omega) (by omega) ⟨fun z hz => if_neg (fun c => by omega), fun z hz => ?_, fun z e1 hz => ?_, fun z x hz => ?_, fun k x _ _ h => by omega⟩ (fun z hz => ?_) _ _
      · try dsimp only
        unfold am_tg
        by_cases c : am_bt 2 (nI (td z)) = true
        · rw [if_pos ⟨hz, c⟩]; simp [hz, c]
        · rw [if_neg (fun c2 => c c2.2)]; simp [c]
      · try dsimp only at hz
        split at hz
        · injection hz with hz; omega
        · cases hz
      · try dsimp only at hz
        split at hz
        · injection hz with hz; omega
        · cases hz
      · try dsimp only
        rw [hF z hz]
        by_cases c : am_bt 2 (nI (td z)) = true
        · rw [if_pos c, if_pos ⟨hz, c⟩]; rfl
        · rw [if_neg c, if_neg (fun c2 => c c2.2)]; rfl
    | succ j ih =>
      intro i hi F hF a2 a3 a4
      have x1 : (208 : Int32) + nI i = nI (208 + i) := nI_add 208 i
      have y1 : am_A (am_sA σ 16 37 F) 16 25 ((208 : Int32) + nI i).toNatClampNeg = nI (td i) := by rw [x1, nI_clamp (by omega), eK]; exact (hpt i (by omega)).2.2.1
      have v : vp_in (nI i) 200 := vp_in_nI (by omega) (by omega)
      have fin : ∀ x : Int32, (if am_bt 2 (nI (td i)) = true then (0 : Int32) else -1) = x → am_T true ya_11_laysFar d Q 37 [some (.ref (am_oid 16)), some (.int (nI i)), a2, a3, a4] [.int x, .int (nI i), .ref (am_aid 16 37)] (am_sA σ 16 37 F) := fun x hx => by
        refine kb_11_laysFar_37 (hi0 := v) (k := ?_)
        rw [nI_1, am_sA_sA, eL, nI_clamp (show i < 2 ^ 31 by omega)]
        refine ih (i + 1) (by omega) _ (fun z hz => ?_) _ _ _
        by_cases c : z = i
        · rw [c, upd_s, hx]
        · rw [upd_n c]; exact hF z (by omega)
      refine kb_11_laysFar_2 (kt := fun z => absurd z (by rw [eK, k0]; exact nI_ge (by omega) (by omega))) (kf := fun _ => ?_)
      refine kb_11_laysFar_12 (hi0 := by rw [x1]; exact vp_in_nI (by omega) (by omega)) (kt := fun z => ?_) (kf := fun z => ?_)
      · rw [y1, am_bt_0] at z
        exact kb_11_laysFar_36 (k := fin _ (by rw [z]; rfl))
      · rw [y1, am_bt_0] at z
        exact kb_11_laysFar_32 (k := fin _ (if_pos (by simpa using z)))
  refine am_enter rfl (by simp [Value.category]) (Nat.le_of_ble_eq_true rfl) (kb_11_laysFar_0 (k := ?_))
  have := first P 0 (by omega) (am_A σ 16 37) (fun z hz => absurd hz (Nat.not_lt_zero z)) none none none
  rw [am_sA_id, nI_0] at this
  exact this
theorem sp_11_nextOf (hS : mo_Sm σ P q st td fs sn) (hf : ∀ i e, f i = some e → e < 200) (hD : ∀ i, i < P → am_A σ 16 37 i = am_oI (-1) (f i)) {p e : Nat} (hp : p < P) (hpe : f p = some (e + 1)) : am_C true ya_11_nextOf d [.ref (am_oid 16), .int (nI p)] σ (fun r τ => τ = σ ∧ r = some (.int (am_oI (-1) (tc_nx q fs sn f p e)))) := by
  obtain ⟨hP, hq, k0, k1, hpt, hpr⟩ := hS
  have he := hf p _ hpe
  generalize hQ : (fun (r : Option Value) (τ : am_St) => τ = σ ∧ r = some (.int (am_oI (-1) (tc_nx q fs sn f p e)))) = Q
  have eDp : am_A σ 16 37 (nI p).toNatClampNeg - 1 = nI e := by rw [nI_clamp (by omega), hD p hp, hpe]; exact nI_pred e
  have loop : ∀ (j k : Nat), k + j = q → ∀ (x : Option Nat) (a4 : Option Value), (∀ m, x = some m → m < P) → tc_mn (fun b => ∃ k', k' < k ∧ fs k' = p ∧ sn k' = b ∧ f b = some e) x → am_T true ya_11_nextOf d Q 4 [some (.ref (am_oid 16)), some (.int (nI p)), some (.int (am_oI (-1) x)), some (.int (nI k)), a4] [] σ := by
    intro j
    induction j with
    | zero =>
      intro k hk x a4 hx hm
      have : k = q := by omega
      subst this
      refine kb_11_nextOf_4 (kt := fun _ => kb_11_nextOf_78 ?_) (kf := fun z => absurd (by rw [k1]; exact nI_le (by omega) (by omega)) z)
      rw [← hQ, tc_nx_eq hm]
      exact ⟨rfl, rfl⟩
    | succ j ih =>
      intro k hk x a4 hx hm
      obtain ⟨p1, p2, p3, p4⟩ := hpr k (by omega)
      have x1 : (408 : Int32) + nI k = nI (408 + k) := nI_add 408 k
      have x2 : (708 : Int32) + nI k = nI (708 + k) := nI_add 708 k
      have y1 : am_A σ 16 25 ((408 : Int32) + nI k).toNatClampNeg = nI (fs k) := by rw [x1, nI_clamp (by omega)]; exact p1
      have y2 : am_A σ 16 25 ((708 : Int32) + nI k).toNatClampNeg = nI (sn k) := by rw [x2, nI_clamp (by omega)]; exact p2
      have eD : am_A σ 16 37 (nI (sn k)).toNatClampNeg = am_oI (-1) (f (sn k)) := by rw [nI_clamp (by omega)]; exact hD _ p4
      have go : ∀ (x' : Option Nat), (∀ m, x' = some m → m < P) → tc_mn (fun b => ∃ k', k' < k + 1 ∧ fs k' = p ∧ sn k' = b ∧ f b = some e) x' → ∀ a4 : Option Value, am_T true ya_11_nextOf d Q 72 [some (.ref (am_oid 16)), some (.int (nI p)), some (.int (am_oI (-1) x')), some (.int (nI k)), a4] [] σ := fun x' hx' hm' a4 => by
        refine kb_11_nextOf_72 (k := ?_)
        rw [nI_1]
        exact ih (k + 1) (by omega) x' _ hx' hm'
      have st0 : ∀ b, (∃ k', k' < k + 1 ∧ fs k' = p ∧ sn k' = b ∧ f b = some e) ↔ ((fs k = p ∧ sn k = b ∧ f b = some e) ∨ ∃ k', k' < k ∧ fs k' = p ∧ sn k' = b ∧ f b = some e) := fun b => by
        constructor
        · rintro ⟨k', g1, g2⟩
          by_cases c : k' = k
          · rw [c] at g2; exact Or.inl g2
          · exact Or.inr ⟨k', by omega, g2⟩
        · rintro (g | ⟨k', g1, g2⟩)
          · exact ⟨k, by omega, g⟩
          · exact ⟨k', by omega, g2⟩
      refine kb_11_nextOf_4 (kt := fun z => absurd z (by rw [k1]; exact nI_ge (by omega) (by omega))) (kf := fun _ => ?_)
      refine kb_11_nextOf_14 (hi0 := by rw [x2]; exact vp_in_nI (by omega) (by omega)) (hi1 := by rw [x1]; exact vp_in_nI (by omega) (by omega)) (kt := fun z => ?_) (kf := fun z => ?_)
      · rw [y1] at z
        exact go x hx (hm.cg (fun b => (st0 b).trans ⟨fun h => h.elim (fun h => absurd (by rw [h.1]) z) id, Or.inr⟩)) _
      · rw [y1] at z
        have hfk : fs k = p := nI_inj (by omega) (by omega) z
        rw [y2]
        refine kb_11_nextOf_40 (hi0 := vp_in_nI (by omega) (by omega)) (hi1 := vp_in_nI (by omega) (by omega)) (kt := fun y => ?_) (kf := fun y => ?_)
        · rw [eD, eDp, am_oI_eq (fun t ht => hf _ t ht) (by omega)] at y
          exact go x hx (hm.cg (fun b => (st0 b).trans ⟨fun h => h.elim (fun h => absurd (by rw [h.2.1]; exact h.2.2) y) id, Or.inr⟩)) _
        · rw [eD, eDp, am_oI_eq (fun t ht => hf _ t ht) (by omega)] at y
          have st1 : ∀ b, (∃ k', k' < k + 1 ∧ fs k' = p ∧ sn k' = b ∧ f b = some e) ↔ (b = sn k ∨ ∃ k', k' < k ∧ fs k' = p ∧ sn k' = b ∧ f b = some e) := fun b => (st0 b).trans ⟨fun h => h.elim (fun h => Or.inl h.2.1.symm) Or.inr, fun h => h.elim (fun h => Or.inl ⟨hfk, h.symm, by rw [h]; exact y⟩) Or.inr⟩
          cases x with
          | none =>
            refine kb_11_nextOf_58 (kt := fun _ => kb_11_nextOf_69 (k := ?_)) (kf := fun z => absurd rfl z)
            exact go (some (sn k)) (fun m hm => by injection hm with hm; rw [← hm]; exact p4) ((hm.add0 _).cg st1) _
          | some m =>
            have hm2 := hx m rfl
            show am_T true ya_11_nextOf d Q 58 [_, _, some (.int (nI m)), _, _] [] σ
            refine kb_11_nextOf_58 (kt := fun z => absurd z (nI_neg1 m (by omega))) (kf := fun _ => ?_)
            refine kb_11_nextOf_63 (kt := fun y => ?_) (kf := fun y => kb_11_nextOf_69 (k := ?_))
            · rw [nI_leI (by omega) (by omega)] at y
              exact go (some m) hx ((hm.add1 _ y).cg st1) _
            · rw [nI_leI (by omega) (by omega)] at y
              exact go (some (sn k)) (fun m hm => by injection hm with hm; rw [← hm]; exact p4) ((hm.add2 _ y).cg st1) _
  exact am_enter rfl (by simp [Value.category]) (Nat.le_of_ble_eq_true rfl) (kb_11_nextOf_0 (k := by
    have := loop q 0 (by omega) none none (fun m hm => by cases hm) ⟨fun _ b ⟨k, k1, _⟩ => absurd k1 (Nat.not_lt_zero k), fun m hm => by cases hm⟩
    rw [nI_0] at this
    exact this))
/-- a good point with a way to a bad one -/
theorem tc_bg_ex {bad good g : Nat → Bool} (hd : ds_ok P q bad fs sn f) (hg : am_Ls q fs sn (fun i => decide (i < P) && good i) g) {i : Nat} (hi : i < P) (hb : bad i = true) (hgi : g i = true) : ∃ p, tc_bg good f P = some p := by
  cases h : tc_bg good f P with
  | some p => exact ⟨p, rfl⟩
  | none =>
    exfalso
    have hn := tc_bg_none P h
    have := hg.2.2 (fun i => (f i).isNone) (fun i hi => by
      have a : i < P ∧ good i = true := by simpa using hi
      show (f i).isNone = true
      rw [hn i a.1 a.2]; rfl) (fun k hk hz => by
      have hz' : (f (fs k)).isNone = true := hz
      show (f (sn k)).isNone = true
      cases hs : f (sn k) with
      | none => rfl
      | some e =>
        obtain ⟨e', -, h2⟩ := hd.2.2.2 k e hk hs
        rw [h2] at hz'; cases hz') i hgi
    have this' : (f i).isNone = true := this
    rw [(hd.2.1 i hi).mpr hb] at this'
    cases this'
/-- distances are short -/
theorem ds_lt (hd : ds_ok P q bad fs sn f) (hP : P ≤ 200) : ∀ i e, f i = some e → e < 200 := by
  intro i e h
  have hs : ∀ n i e, f i = some e → n ≤ e → ∃ j, f j = some (e - n) := by
    intro n
    induction n with
    | zero => intro i e h _; exact ⟨i, by simpa using h⟩
    | succ n ih =>
      intro i e h hn
      obtain ⟨j, hj⟩ := ih i e h (by omega)
      have : e - n = (e - (n + 1)) + 1 := by omega
      rw [this] at hj
      obtain ⟨k, -, -, h3⟩ := hd.2.2.1 j _ hj
      exact ⟨_, h3⟩
  have hc : ∀ n, n ≤ e + 1 → n ≤ am_cn (fun i => match f i with | none => false | some x => decide (x < n)) P := by
    intro n
    induction n with
    | zero => intro _; omega
    | succ n ih =>
      intro hn
      obtain ⟨j, hj⟩ := hs (e - n) i e h (by omega)
      have hj' : f j = some n := by rw [hj]; congr 1; omega
      have hjP : j < P := by
        rcases Nat.lt_or_ge j P with c | c
        · exact c
        · rw [hd.1 j c] at hj; cases hj
      have := am_cn_lt (f := fun i => match f i with | none => false | some x => decide (x < n)) (g := fun i => match f i with | none => false | some x => decide (x < n + 1)) (n := P) (i := j) (fun z hz => by
        cases hfz : f z with
        | none => rw [hfz] at hz; cases hz
        | some x => rw [hfz] at hz; simp at hz ⊢; omega) hjP (by simp [hj']) (by simp [hj'])
      have := ih (by omega)
      omega
  have h1 := hc (e + 1) (Nat.le_refl _)
  have h2 := am_cn_le (fun i => match f i with | none => false | some x => decide (x < e + 1)) P
  omega
theorem sp_11_trace {y : lr_T} {N T : Nat} {care order : Bool} {al : Nat → Bool} (h : mo_C σ y care order al T N) (hu : y.2.2.1 = 2 → lr_us y.1.1 y.1.2.2.2.1 (lr_g y.1) = true) (x : Int32) : am_C true ya_11_trace (d + 1) [.ref (am_oid 16), .int x] σ (fun r τ => r = some (.int (if y.2.2.1 = 2 ∧ 0 ≤ x then tc_fin y.1.1 y.1.2.1 y.1.2.2.2.1 y.1.2.2.2.2.1 y.1.2.2.2.2.2 (ds_f y.1.1 y.1.2.1 (am_tg y.1.2.2.2.1 2 y.1.1) y.1.2.2.2.2.1 y.1.2.2.2.2.2) x else -1)) ∧ mo_Fr [0] [37] σ τ) := by
  obtain ⟨⟨P, q, st, td, fs, sn⟩, y2⟩ := y
  dsimp only at hu ⊢
  have hE : am_A σ 16 25 4 = y2.2.1 := h.2.2.1
  have hS0 : mo_Sm σ P q st td fs sn := h.1.1
  have hS : mo_Sm (am_sI σ 16 0 0) P q st td fs sn := hS0
  obtain ⟨hP, hq, k0, k1, hpt, hpr⟩ := id hS0
  have hab : ∀ k, k < q → fs k < P ∧ sn k < P := fun k hk => (hpr k hk).2.2
  have hF0 : mo_Fr [0] [37] σ (am_sI σ 16 0 0) := mo_Fr.rf.sI (by rfl) 0
  refine am_enter rfl (by simp [Value.category]) (Nat.le_of_ble_eq_true rfl) ?_
  by_cases z2 : y2.2.1 = 2
  rotate_left
  · exact kb_11_trace_0 (kt := fun _ => kb_11_trace_19 ⟨by rw [if_neg (fun z => z2 z.1)], hF0⟩) (kf := fun z => absurd (hE.symm.trans z) z2)
  refine kb_11_trace_0 (kt := fun z => absurd (hE.trans z2) z) (kf := fun _ => ?_)
  by_cases hx : 0 ≤ x
  rotate_left
  · exact kb_11_trace_15 (kt := fun z => absurd z hx) (kf := fun _ => kb_11_trace_19 ⟨by rw [if_neg (fun z => hx z.2)], hF0⟩)
  refine kb_11_trace_15 (kt := fun _ => ?_) (kf := fun z => absurd hx z)
  obtain ⟨i, hi, rfl⟩ := nI_of (x := x) (fun z => by
    have h1 := Int32.lt_iff_toInt_lt.mp z
    have h2 := Int32.le_iff_toInt_le.mp hx
    omega)
  rw [if_pos ⟨z2, hx⟩]
  refine kb_11_trace_21 (hC := sp_11_laysFar hS) (k := fun r τ hr => ?_)
  obtain ⟨rfl, f, F, h1, -, h3, hτ⟩ := hr
  rw [← ds_eq h1]
  have h2 := ds_lt h1 hP
  have hFt : mo_Fr [0] [37] σ τ := by rw [hτ]; exact hF0.sA (by rfl) _
  have eK : am_A τ 16 25 = am_A σ 16 25 := hFt.2.1 25 rfl
  have hSt : mo_Sm τ P q st td fs sn := hS0.same eK
  have hDt : ∀ i, i < P → am_A τ 16 37 i = am_oI (-1) (f i) := fun i hi => by rw [hτ, am_A_sA, if_pos ⟨rfl, rfl⟩]; exact h3 i hi
  obtain ⟨good, hg⟩ : ∃ good : Nat → Bool, good = fun i => am_bt 1 (nI (td i)) := ⟨_, rfl⟩
  have eF : tc_fin P q td fs sn f (nI i) = (match tc_bg good f P with | none => -2 | some p => if nI i ≤ nI ((f p).getD 0) then nI (tc_wk q fs sn f i p) else -2) := by
    unfold tc_fin; rw [hg, nI_clamp hi]; rfl
  obtain ⟨p, hb⟩ : ∃ p, tc_bg good f P = some p := by
    have hus := hu z2
    unfold lr_us at hus
    have hex : ∃ z, z < P ∧ am_bt 2 (nI (td z)) = true ∧ lr_g (P, q, st, td, fs, sn) z = true := by
      have := Classical.byContradiction (fun hno : ¬ ∃ z, z < P ∧ am_bt 2 (nI (td z)) = true ∧ lr_g (P, q, st, td, fs, sn) z = true => by
        have : am_cn (fun i => am_bt 2 (nI (td i)) && lr_g (P, q, st, td, fs, sn) i) P = 0 := am_cn_zero' (fun z hz => by
          cases e1 : am_bt 2 (nI (td z))
          · rfl
          · cases e2 : lr_g (P, q, st, td, fs, sn) z
            · rfl
            · exact absurd ⟨z, hz, e1, e2⟩ hno)
        rw [this] at hus
        exact absurd hus (by decide))
      exact this
    obtain ⟨z, z1, z3, z4⟩ := hex
    refine tc_bg_ex (bad := am_tg td 2 P) (g := lr_g (P, q, st, td, fs, sn)) h1 ?_ z1 ?_ z4
    · have := am_clo_ls q fs sn (am_tg td 1 P)
      have e : (fun i => decide (i < P) && good i) = am_tg td 1 P := by funext i; rw [hg]; rfl
      rw [e]; exact this
    · unfold am_tg; simp [z1, z3]
  obtain ⟨p1, -, e, p3⟩ := tc_bg_some P hb
  have he := h2 p e p3
  generalize hQ : (fun (r : Option Value) (τ : am_St) => r = some (.int (tc_fin P q td fs sn f (nI i))) ∧ mo_Fr [0] [37] σ τ) = Q
  have walk : ∀ (j k p e : Nat), k + j = i → p < P → f p = some e → j ≤ e → tc_fin P q td fs sn f (nI i) = nI (tc_wk q fs sn f j p) → am_T true ya_11_trace (d + 1) Q 107 [some (.ref (am_oid 16)), some (.int (nI i)), some (.int (nI p)), some (.int (nI k))] [] τ := by
    intro j
    induction j with
    | zero =>
      intro k p e hk hp hpe hje hw
      refine kb_11_trace_107 (kt := fun _ => kb_11_trace_124 ?_) (kf := fun z => absurd (nI_le (by omega) (by omega)) z)
      rw [← hQ, hw]
      exact ⟨rfl, hFt⟩
    | succ j ih =>
      intro k p e hk hp hpe hje hw
      obtain ⟨e', rfl⟩ : ∃ e', e = e' + 1 := ⟨e - 1, by omega⟩
      obtain ⟨m, m1, m2, m3⟩ := tc_nx_ok h1 hab hpe
      refine kb_11_trace_107 (kt := fun z => absurd z (nI_ge (by omega) (by omega))) (kf := fun _ => ?_)
      refine kb_11_trace_112 (hC := sp_11_nextOf hSt h2 hDt hp hpe) (k := fun r τ2 hr => ?_)
      obtain ⟨hτ2, rfl⟩ := hr
      subst hτ2
      rw [m1]
      refine kb_11_trace_117 (k := ?_)
      rw [nI_1]
      refine ih (k + 1) m e' (by omega) m2 m3 (by omega) ?_
      rw [hw]
      show nI (tc_wk q fs sn f j ((tc_nx q fs sn f p ((f p).getD 0 - 1)).getD 0)) = _
      rw [hpe, show (some (e' + 1)).getD 0 - 1 = e' from rfl, m1]
      rfl
  have loop : ∀ (j z : Nat), z + j = P → am_T true ya_11_trace (d + 1) Q 29 [some (.ref (am_oid 16)), some (.int (nI i)), some (.int (am_oI (-1) (tc_bg good f z))), some (.int (nI z))] [] τ := by
    intro j
    induction j with
    | zero =>
      intro z hz
      have : z = P := by omega
      subst this
      rw [hb] at eF ⊢
      dsimp only at eF
      rw [p3] at eF
      have eD : am_A τ 16 37 (nI p).toNatClampNeg = nI e := by rw [nI_clamp (by omega), hDt p p1, p3]; rfl
      refine kb_11_trace_29 (kt := fun _ => ?_) (kf := fun z => absurd (by rw [eK, k0]; exact nI_le (by omega) (by omega)) z)
      show am_T true ya_11_trace (d + 1) Q 92 [_, _, some (.int (nI p)), _] [] τ
      refine kb_11_trace_92 (hi0 := vp_in_nI (by omega) (by omega)) (kt := fun z => ?_) (kf := fun z => kb_11_trace_102 ?_)
      · rw [eD] at z
        have hie : i ≤ e := (nI_leI hi (by omega)).mp z
        refine kb_11_trace_105 (k := ?_)
        have := walk i 0 p e (by omega) p1 p3 hie (by rw [eF]; exact if_pos z)
        rw [nI_0] at this
        exact this
      · rw [eD] at z
        rw [← hQ]
        refine ⟨?_, hFt⟩
        rw [eF]
        exact (congrArg _ (congrArg _ (if_neg z))).symm
    | succ j ih =>
      intro z hz
      have v : vp_in (nI z) 200 := vp_in_nI (by omega) (by omega)
      have c : (nI z).toNatClampNeg = z := nI_clamp (by omega)
      have x1 : (208 : Int32) + nI z = nI (208 + z) := nI_add 208 z
      have eT : am_A τ 16 25 ((208 : Int32) + nI z).toNatClampNeg = nI (td z) := by rw [x1, nI_clamp (by omega), eK]; exact (hpt z (by omega)).2.2.1
      have eD : am_A τ 16 37 (nI z).toNatClampNeg = am_oI (-1) (f z) := by rw [c]; exact hDt z (by omega)
      have next := ih (z + 1) (by omega)
      have e : tc_bg good f (z + 1) = (match (if good z = true then f z else none) with | none => tc_bg good f z | some e => match tc_bg good f z with | none => some z | some b => if e < (f b).getD 0 then some z else some b) := rfl
      have no : (if good z = true then f z else none) = none → am_T true ya_11_trace (d + 1) Q 86 [some (.ref (am_oid 16)), some (.int (nI i)), some (.int (am_oI (-1) (tc_bg good f z))), some (.int (nI z))] [] τ := fun u => by
        refine kb_11_trace_86 (k := ?_)
        rw [nI_1]
        rw [e, u] at next
        exact next
      refine kb_11_trace_29 (kt := fun u => absurd u (by rw [eK, k0]; exact nI_ge (by omega) (by omega))) (kf := fun _ => ?_)
      refine kb_11_trace_39 (hi0 := by rw [x1]; exact vp_in_nI (by omega) (by omega)) (kt := fun u => ?_) (kf := fun u => ?_)
      · rw [eT, am_bt_0] at u
        refine no ?_
        rw [if_neg (by rw [hg]; dsimp only; rw [u]; decide)]
      · rw [eT, am_bt_0] at u
        have hgi : good z = true := by rw [hg]; simpa using u
        rw [if_pos hgi] at no e
        refine kb_11_trace_54 (hi0 := v) (kt := fun w => ?_) (kf := fun w => ?_)
        · rw [eD, am_oI_n (fun t ht => h2 z t ht)] at w
          exact no w
        · rw [eD, am_oI_n (fun t ht => h2 z t ht)] at w
          cases hfi : f z with
          | none => exact absurd hfi w
          | some e1 =>
            rw [hfi] at e
            dsimp only at e
            have he1 := h2 z e1 hfi
            cases hbz : tc_bg good f z with
            | none =>
              rw [hbz] at e
              dsimp only at e
              refine kb_11_trace_64 (kt := fun _ => kb_11_trace_84 (k := kb_11_trace_86 (k := ?_))) (kf := fun z => absurd rfl z)
              rw [nI_1]
              rw [e] at next
              exact next
            | some b =>
              obtain ⟨b1, -, e2, b3⟩ := tc_bg_some z hbz
              have he2 := h2 b e2 b3
              rw [hbz] at e
              dsimp only at e
              rw [b3] at e
              have cb : (nI b).toNatClampNeg = b := nI_clamp (by omega)
              have eB : am_A τ 16 37 (nI b).toNatClampNeg = nI e2 := by rw [cb, hDt b (by omega), b3]; rfl
              have eI : am_A τ 16 37 (nI z).toNatClampNeg = nI e1 := by rw [eD, hfi]; rfl
              show am_T true ya_11_trace (d + 1) Q 64 [_, _, some (.int (nI b)), _] [] τ
              refine kb_11_trace_64 (kt := fun z => absurd z (nI_neg1 b (by omega))) (kf := fun _ => ?_)
              refine kb_11_trace_69 (hi0 := v) (hi1 := vp_in_nI (by omega) (by omega)) (kt := fun w => ?_) (kf := fun w => ?_)
              · rw [eB, eI, nI_leI (by omega) (by omega)] at w
                refine kb_11_trace_86 (k := ?_)
                rw [nI_1]
                rw [e, if_neg (by show ¬ e1 < e2; omega)] at next
                exact next
              · rw [eB, eI, nI_leI (by omega) (by omega)] at w
                refine kb_11_trace_84 (k := kb_11_trace_86 (k := ?_))
                rw [nI_1]
                rw [e, if_pos (by show e1 < e2; omega)] at next
                exact next
  refine kb_11_trace_25 (k := ?_)
  have := loop P 0 (by omega)
  rw [nI_0] at this
  exact this
end MWAY
