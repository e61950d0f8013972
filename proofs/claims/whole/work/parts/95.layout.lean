/-! the values of all states, the last variable turning fastest -/
theorem dg_a {a w : Nat} (hw : 1 ≤ w) (h : a % w = w - 1) : (a + 1) % w = 0 ∧ (a + 1) / w = a / w + 1 := by
  have e := Nat.div_add_mod a w
  have e2 : a + 1 = w * (a / w + 1) := by rw [Nat.mul_add, Nat.mul_one]; omega
  rw [e2]
  exact ⟨Nat.mul_mod_right _ _, Nat.mul_div_cancel_left _ hw⟩
theorem dg_b {a w : Nat} (h : a % w + 1 < w) : (a + 1) % w = a % w + 1 ∧ (a + 1) / w = a / w := by
  have e := Nat.div_add_mod a w
  have e2 : a + 1 = w * (a / w) + (a % w + 1) := by omega
  constructor
  · rw [e2, Nat.mul_add_mod, Nat.mod_eq_of_lt h]
  · rw [e2, Nat.mul_add_div (by omega), Nat.div_eq_of_lt h, Nat.add_zero]
/-- only some rows of the world have changed -/
def wf_F (ks : List Nat) (σ τ : am_St) : Prop := (∀ o k, am_I τ o k = am_I σ o k) ∧ (∀ o k, ¬ (o = 4 ∧ ks.contains k = true) → am_A τ o k = am_A σ o k) ∧ τ.2.2 = σ.2.2
theorem wf_F.rf {ks : List Nat} {σ : am_St} : wf_F ks σ σ := ⟨fun _ _ => rfl, fun _ _ _ => rfl, rfl⟩
theorem wf_F.tr {ks : List Nat} {σ τ υ : am_St} (h : wf_F ks σ τ) (h' : wf_F ks τ υ) : wf_F ks σ υ := ⟨fun o k => (h'.1 o k).trans (h.1 o k), fun o k z => (h'.2.1 o k z).trans (h.2.1 o k z), h'.2.2.trans h.2.2⟩
theorem wf_F.sA {ks : List Nat} {σ τ : am_St} (h : wf_F ks σ τ) {k : Nat} (hk : ks.contains k = true) (f : Nat → Int32) : wf_F ks σ (am_sA τ 4 k f) := ⟨fun o j => h.1 o j, fun o j z => by rw [am_A_sA, if_neg (fun y => z ⟨y.2, by rw [y.1]; exact hk⟩)]; exact h.2.1 o j z, h.2.2⟩
theorem wf_F.wid {ks ks' : List Nat} {σ τ : am_St} (h : wf_F ks σ τ) (hk : ks.all (fun k => ks'.contains k) = true) : wf_F ks' σ τ := ⟨h.1, fun o k z => h.2.1 o k (fun y => z ⟨y.1, by
  cases c : ks'.contains k with
  | true => rfl
  | false => have := ls_sub hk c; rw [this] at y; cases y.2⟩), h.2.2⟩
section LAYOUT
variable {d nv N : Nat} {lo : Nat → Int} {wd : Nat → Nat} {σ : am_St}
theorem wl_lf_0 : ∀ j, wl_lf nv wd 0 j = 0 := by
  intro j
  induction j with
  | zero => rfl
  | succ j ih => show wl_lf nv wd 0 j / _ = 0; rw [ih, Nat.zero_div]
theorem wl_lf_up {s j : Nat} (h : wl_lf nv wd (s + 1) j = wl_lf nv wd s j) : ∀ i, wl_lf nv wd (s + 1) (j + i) = wl_lf nv wd s (j + i) := by
  intro i
  induction i with
  | zero => exact h
  | succ i ih => show wl_lf nv wd (s + 1) (j + i) / _ = wl_lf nv wd s (j + i) / _; rw [ih]
theorem sp_9_layOut (hk : wl_ok nv lo wd N) (h0 : am_I σ 4 0 = nI nv) (h5 : am_I σ 4 5 = nI N) (hb : ∀ v, v < nv → am_A σ 4 6 v = iI (lo v) ∧ am_A σ 4 7 v = iI (lo v + wd v - 1)) : am_C false ya_9_layOut d [.ref (am_oid 4)] σ (fun r τ => r = none ∧ wf_F [8, 12] σ τ ∧ ∀ s, s < N → ∀ v, v < nv → am_A τ 4 8 (3 * s + v) = iI (wl_v nv lo wd s v)) := by
  obtain ⟨k1, k2, k3, k4⟩ := hk
  have e3 : ∀ a b : Nat, nI a * 3 + nI b = nI (3 * a + b) := fun a b => by rw [show (3 : Int32) = nI 3 from rfl, nI_mul, nI_add, Nat.mul_comm]
  generalize hQ : (fun (r : Option Value) (τ : am_St) => r = none ∧ wf_F [8, 12] σ τ ∧ ∀ s, s < N → ∀ v, v < nv → am_A τ 4 8 (3 * s + v) = iI (wl_v nv lo wd s v)) = Q
  have f0 : ∀ τ, wf_F [8, 12] σ τ → am_I τ 4 0 = nI nv ∧ am_I τ 4 5 = nI N ∧ ∀ v, v < nv → am_A τ 4 6 v = iI (lo v) ∧ am_A τ 4 7 v = iI (lo v + wd v - 1) := fun τ h => ⟨by rw [h.1]; exact h0, by rw [h.1]; exact h5, fun v hv => by rw [h.2.1 4 6 (by simp), h.2.1 4 7 (by simp)]; exact hb v hv⟩
  -- one state after another
  have states : ∀ (j s : Nat) (a2 : Option Value) (τ : am_St), s + j = N → wf_F [8, 12] σ τ → (∀ v, v < nv → am_A τ 4 12 v = iI (wl_v nv lo wd s v)) → (∀ s', s' < s → ∀ v, v < nv → am_A τ 4 8 (3 * s' + v) = iI (wl_v nv lo wd s' v)) → am_T false ya_9_layOut d Q 30 [some (.ref (am_oid 4)), some (.int (nI s)), a2] [] τ := by
    intro j
    induction j with
    | zero =>
      intro s a2 τ hs F hw hv
      have : s = N := by omega
      subst this
      obtain ⟨g0, g5, gb⟩ := f0 τ F
      refine kb_9_layOut_30 (kt := fun _ => kb_9_layOut_133 ?_) (kf := fun z => absurd (by rw [g5]; exact nI_le (by omega) (by omega)) z)
      rw [← hQ]; exact ⟨rfl, F, hv⟩
    | succ j ih =>
      intro s a2 τ hs F hw hv
      obtain ⟨g0, g5, gb⟩ := f0 τ F
      refine kb_9_layOut_30 (kt := fun z => absurd z (by rw [g5]; exact nI_ge (by omega) (by omega))) (kf := fun _ => kb_9_layOut_38 (k := ?_))
      -- turning
      have turn : ∀ (m : Nat) (υ : am_St), m ≤ nv → wf_F [8, 12] σ υ → (∀ s', s' < s + 1 → ∀ v, v < nv → am_A υ 4 8 (3 * s' + v) = iI (wl_v nv lo wd s' v)) → (∀ v, v < m → am_A υ 4 12 v = iI (wl_v nv lo wd s v)) → (∀ v, m ≤ v → v < nv → am_A υ 4 12 v = iI (wl_v nv lo wd (s + 1) v)) → wl_lf nv wd (s + 1) (nv - m) = wl_lf nv wd s (nv - m) + 1 → am_T false ya_9_layOut d Q 77 [some (.ref (am_oid 4)), some (.int (nI s)), some (.int (nI m - 1))] [] υ := by
        intro m
        induction m with
        | zero =>
          intro υ _ F' hv' _ h2 _
          refine kb_9_layOut_77 (kt := fun _ => kb_9_layOut_127 (k := ?_)) (kf := fun z => absurd (show nI 0 - 1 < 0 by decide) z)
          rw [nI_1]
          exact ih (s + 1) _ υ (by omega) F' (fun v hv => h2 v (Nat.zero_le v) hv) hv'
        | succ m ihm =>
          intro υ hm F' hv' h1 h2 hl
          obtain ⟨q0, q5, qb⟩ := f0 υ F'
          obtain ⟨b1, b2⟩ := qb m (by omega)
          obtain ⟨l1, l2, l3⟩ := k2 m (by omega)
          have em : nI (m + 1) - 1 = nI m := by rw [← nI_1, Int32.add_sub_cancel]
          have cm : (nI m).toNatClampNeg = m := nI_clamp (by omega)
          have vm : vp_in (nI m) 3 := vp_in_nI (by omega) (by omega)
          obtain ⟨L, hL⟩ : ∃ L, L = wl_lf nv wd s (nv - (m + 1)) := ⟨_, rfl⟩
          rw [← hL] at hl
          have hdg : L % wd m < wd m := Nat.mod_lt _ l2
          have jm : nv - 1 - m = nv - (m + 1) := by omega
          have v1 : wl_v nv lo wd s m = lo m + ((L % wd m : Nat) : Int) := by unfold wl_v; rw [jm, ← hL]
          have v2 : wl_v nv lo wd (s + 1) m = lo m + (((L + 1) % wd m : Nat) : Int) := by unfold wl_v; rw [jm, hl]
          have lf1 : ∀ t, wl_lf nv wd t (nv - m) = wl_lf nv wd t (nv - (m + 1)) / wd m := fun t => by
            rw [show nv - m = (nv - (m + 1)) + 1 by omega]
            show wl_lf nv wd t (nv - (m + 1)) / wd (nv - 1 - (nv - (m + 1))) = _
            rw [show nv - 1 - (nv - (m + 1)) = m by omega]
          rw [em]
          refine kb_9_layOut_77 (kt := fun z => absurd z (nI_pos (by omega))) (kf := fun _ => ?_)
          refine kb_9_layOut_81 (hi0 := vm) (hi1 := vm) (kt := fun z => ?_) (kf := fun z => ?_)
          · rw [cm, b2, h1 m (by omega), v1, iI_le (by omega) (by omega) (by omega) (by omega)] at z
            have hd : L % wd m = wd m - 1 := by omega
            obtain ⟨d1, d2⟩ := dg_a l2 hd
            refine kb_9_layOut_109 (hi0 := vm) (hi1 := vm) (k := ?_)
            rw [cm, b1, ← Int32.sub_eq_add_neg]
            have eG : am_A (am_sA υ 4 12 (upd (am_A υ 4 12) m (iI (lo m)))) 4 12 = upd (am_A υ 4 12) m (iI (lo m)) := by rw [am_A_sA, if_pos ⟨rfl, rfl⟩]
            refine ihm _ (by omega) (F'.sA (by rfl) _) (fun s' hs' v hv => by rw [am_A_sA, if_neg (by simp)]; exact hv' s' hs' v hv) (fun v hv => by rw [eG, upd_n (by omega)]; exact h1 v (by omega)) (fun v c1 c2 => ?_) ?_
            · by_cases c : v = m
              · subst c
                rw [eG, upd_s, v2, d1]
                congr 1; omega
              · rw [eG, upd_n c]; exact h2 v (by omega) c2
            · rw [lf1, lf1, hl, ← hL, d2]
          · rw [cm, b2, h1 m (by omega), v1, iI_le (by omega) (by omega) (by omega) (by omega)] at z
            have hd : L % wd m + 1 < wd m := by omega
            obtain ⟨d1, d2⟩ := dg_b hd
            refine kb_9_layOut_96 (hi0 := vm) (hi1 := vm) (k := kb_9_layOut_127 (k := ?_))
            rw [cm, nI_1]
            have eG : ∀ f : Nat → Int32, am_A (am_sA υ 4 12 f) 4 12 = f := fun f => by rw [am_A_sA, if_pos ⟨rfl, rfl⟩]
            refine ih (s + 1) _ _ (by omega) (F'.sA (by rfl) _) (fun v hv => ?_) (fun s' hs' v hv => by rw [am_A_sA, if_neg (by simp)]; exact hv' s' hs' v hv)
            rw [eG]
            by_cases c : v = m
            · subst c
              rw [upd_s, h1 v (by omega), v1, v2, d1, show (1 : Int32) = iI 1 from rfl, iI_add]
              congr 1; omega
            · rw [upd_n c]
              by_cases c2 : v < m
              · rw [h1 v (by omega)]
                unfold wl_v
                have up := wl_lf_up (nv := nv) (wd := wd) (s := s) (j := nv - m) (by rw [lf1, lf1, hl, ← hL, d2]) (nv - 1 - v - (nv - m))
                rw [show nv - m + (nv - 1 - v - (nv - m)) = nv - 1 - v by omega] at up
                rw [up]
              · exact h2 v (by omega) hv
      have copy : ∀ (i v : Nat) (υ : am_St), v + i = nv → wf_F [8, 12] σ υ → (∀ v, v < nv → am_A υ 4 12 v = iI (wl_v nv lo wd s v)) → (∀ s', s' < s → ∀ v, v < nv → am_A υ 4 8 (3 * s' + v) = iI (wl_v nv lo wd s' v)) → (∀ w, w < v → am_A υ 4 8 (3 * s + w) = iI (wl_v nv lo wd s w)) → am_T false ya_9_layOut d Q 40 [some (.ref (am_oid 4)), some (.int (nI s)), some (.int (nI v))] [] υ := by
        intro i
        induction i with
        | zero =>
          intro v υ hvv F' hw' hv' h1
          have : v = nv := by omega
          subst this
          obtain ⟨q0, q5, qb⟩ := f0 υ F'
          refine kb_9_layOut_40 (kt := fun _ => kb_9_layOut_70 (k := ?_)) (kf := fun z => absurd (by rw [q0]; exact nI_le (by omega) (by omega)) z)
          rw [q0]
          refine turn v υ (Nat.le_refl _) F' (fun s' hs' w hw => ?_) hw' (fun w c1 c2 => absurd c2 (by omega)) (by rw [Nat.sub_self]; rfl)
          by_cases c : s' = s
          · rw [c]; exact h1 w hw
          · exact hv' s' (by omega) w hw
        | succ i ihi =>
          intro v υ hvv F' hw' hv' h1
          obtain ⟨q0, q5, qb⟩ := f0 υ F'
          refine kb_9_layOut_40 (kt := fun z => absurd z (by rw [q0]; exact nI_ge (by omega) (by omega))) (kf := fun _ => ?_)
          refine kb_9_layOut_48 (hi0 := vp_in_nI (by omega) (by omega)) (hi1 := by rw [e3]; exact vp_in_nI (by omega) (by omega)) (k := ?_)
          rw [e3, nI_clamp (show 3 * s + v < 2 ^ 31 by omega), nI_clamp (show v < 2 ^ 31 by omega), nI_1]
          have eG : ∀ f : Nat → Int32, am_A (am_sA υ 4 8 f) 4 8 = f := fun f => by rw [am_A_sA, if_pos ⟨rfl, rfl⟩]
          refine ihi (v + 1) _ (by omega) (F'.sA (by rfl) _) (fun w hw => by rw [am_A_sA, if_neg (by simp)]; exact hw' w hw) (fun s' hs' w hw => by rw [eG, upd_n (by omega)]; exact hv' s' hs' w hw) (fun w hw => ?_)
          rw [eG]
          by_cases c : w = v
          · rw [c, upd_s]; exact hw' v (by omega)
          · rw [upd_n (by omega)]; exact h1 w (by omega)
      have := copy nv 0 τ (by omega) F hw hv (fun w hw => absurd hw (Nat.not_lt_zero w))
      rw [nI_0] at this
      exact this
  have first : ∀ (i v : Nat) (a2 : Option Value) (υ : am_St), v + i = nv → wf_F [8, 12] σ υ → (∀ w, w < v → am_A υ 4 12 w = iI (lo w)) → am_T false ya_9_layOut d Q 2 [some (.ref (am_oid 4)), some (.int (nI v)), a2] [] υ := by
    intro i
    induction i with
    | zero =>
      intro v a2 υ hv F hw
      have : v = nv := by omega
      subst this
      obtain ⟨q0, q5, qb⟩ := f0 υ F
      refine kb_9_layOut_2 (kt := fun _ => kb_9_layOut_28 (k := ?_)) (kf := fun z => absurd (by rw [q0]; exact nI_le (by omega) (by omega)) z)
      have := states N 0 a2 υ (by omega) F (fun w hww => by rw [hw w hww]; unfold wl_v; rw [wl_lf_0, Nat.zero_mod]; congr 1; omega) (fun s hs => absurd hs (Nat.not_lt_zero s))
      rw [nI_0] at this
      exact this
    | succ i ih =>
      intro v a2 υ hv F hw
      obtain ⟨q0, q5, qb⟩ := f0 υ F
      refine kb_9_layOut_2 (kt := fun z => absurd z (by rw [q0]; exact nI_ge (by omega) (by omega))) (kf := fun _ => ?_)
      refine kb_9_layOut_10 (hi0 := vp_in_nI (by omega) (by omega)) (hi1 := vp_in_nI (by omega) (by omega)) (k := ?_)
      rw [nI_clamp (show v < 2 ^ 31 by omega), nI_1, (qb v (by omega)).1]
      refine ih (v + 1) _ _ (by omega) (F.sA (by rfl) _) (fun w hww => ?_)
      rw [am_A_sA, if_pos ⟨rfl, rfl⟩]
      by_cases c : w = v
      · rw [c, upd_s]
      · rw [upd_n c]; exact hw w (by omega)
  refine am_enter rfl (by simp [Value.category]) (Nat.le_of_ble_eq_true rfl) (kb_9_layOut_0 (k := ?_))
  have := first nv 0 none σ (by omega) wf_F.rf (fun w hw => absurd hw (Nat.not_lt_zero w))
  rw [nI_0] at this
  exact this
end LAYOUT
