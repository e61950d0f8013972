/-! the world of a plan; the class's build -/
abbrev pl_P := Nat × Nat × Nat × Nat × Nat × (Nat → Int) × (Nat → Nat) × (Nat → Int32) × (Nat → Nat → Int32) × (Nat → Nat) × (Nat → Nat) × (Nat → Bool) × (Nat → Nat → Int32)
abbrev pP_nv (p : pl_P) : Nat := p.1
abbrev pP_ns (p : pl_P) : Nat := p.2.1
abbrev pP_nb (p : pl_P) : Nat := p.2.2.1
abbrev pP_K (p : pl_P) : Nat := p.2.2.2.1
abbrev pP_T (p : pl_P) : Nat := p.2.2.2.2.1
abbrev pP_lo (p : pl_P) : Nat → Int := p.2.2.2.2.2.1
abbrev pP_wd (p : pl_P) : Nat → Nat := p.2.2.2.2.2.2.1
abbrev pP_sg (p : pl_P) : Nat → Int32 := p.2.2.2.2.2.2.2.1
abbrev pP_fm (p : pl_P) : Nat → Nat → Int32 := p.2.2.2.2.2.2.2.2.1
abbrev pP_cf (p : pl_P) : Nat → Nat := p.2.2.2.2.2.2.2.2.2.1
abbrev pP_cn (p : pl_P) : Nat → Nat := p.2.2.2.2.2.2.2.2.2.2.1
abbrev pP_g (p : pl_P) : Nat → Bool := p.2.2.2.2.2.2.2.2.2.2.2.1
abbrev pP_sf (p : pl_P) : Nat → Nat → Int32 := p.2.2.2.2.2.2.2.2.2.2.2.2
def pw_x (p : pl_P) (s : Nat) : Nat → Int32 := fun v => iI (wl_v (pP_nv p) (pP_lo p) (pP_wd p) s v)
def pw_c (p : pl_P) (x : Nat → Int32) (c : Nat) : Bool := pl_cd (pP_nv p) (pP_sg p) (pP_fm p) (pP_cf p) (pP_cn p) x c
def pw_st (p : pl_P) (s : Nat) : Bool := pl_ex (fun c => pw_c p (pw_x p s) c) (pP_ns p)
def pw_bd (p : pl_P) (s : Nat) : Bool := pl_ex (fun c => pw_c p (pw_x p s) (4 + c)) (pP_nb p)
def pw_tb (p : pl_P) (s : Nat) : Int32 := pl_tb (fun t => pw_c p (pw_x p s) (16 + t)) (pP_T p)
def pw_nx (p : pl_P) (s k : Nat) : Option Nat := pl_nx (pP_nv p) (pP_lo p) (pP_wd p) (pP_sg p) (pP_fm p) (pP_cf p) (pP_cn p) (pP_g p) (pP_sf p) (pw_x p s) k
noncomputable def pw_fl (p : pl_P) (N s q : Nat) : Bool := if q = 0 then pw_st p s else if q = 1 then pw_bd p s else if q = 2 then rl_clo (nx_R N (pP_K p) (pw_nx p)) (am_lN N (pw_st p)) s else rl_clo (nx_B N (pP_K p) (pw_nx p)) (am_lN N (pw_bd p)) s
def pP_ok (p : pl_P) (N : Nat) : Prop := wl_ok (pP_nv p) (pP_lo p) (pP_wd p) N ∧ pP_ns p ≤ 4 ∧ pP_nb p ≤ 4 ∧ pP_K p ≤ 8 ∧ pP_T p ≤ 16
theorem pw_nx_lt {p : pl_P} {N s k t : Nat} (h : pP_ok p N) (ht : pw_nx p s k = some t) : t < N := by
  unfold pw_nx pl_nx at ht
  split at ht
  · rw [h.1.2.2.1]; exact wl_s_lt _ ht
  · cases ht
/-- the class's plan is p -/
def cp_P (σ : am_St) (p : pl_P) (N : Nat) : Prop := pP_ok p N ∧ (∃ na, pl_C σ (pP_nv p) (pP_K p) na (pP_sg p) (pP_fm p) (pP_cf p) (pP_cn p) (pP_g p) (pP_sf p)) ∧ am_I σ 1 0 = nI (pP_nv p) ∧ am_I σ 1 1 = nI (pP_ns p) ∧ am_I σ 1 2 = nI (pP_nb p) ∧ am_I σ 1 3 = nI (pP_K p) ∧ am_I σ 1 4 = nI (pP_T p) ∧ am_I σ 1 6 = nI N ∧ ∀ v, v < pP_nv p → am_A σ 1 8 v = iI (pP_lo p v) ∧ am_A σ 1 9 v = iI (pP_lo p v + pP_wd p v - 1)
/-- what build has laid so far -/
def bd_1 (σ τ : am_St) (p : pl_P) (N : Nat) : Prop := am_On 4 σ τ ∧ am_I τ 4 0 = nI (pP_nv p) ∧ am_I τ 4 1 = nI (pP_ns p) ∧ am_I τ 4 2 = nI (pP_nb p) ∧ am_I τ 4 3 = nI (pP_K p) ∧ am_I τ 4 4 = nI (pP_T p) ∧ am_I τ 4 5 = nI N ∧ ∀ v, v < pP_nv p → am_A τ 4 6 v = iI (pP_lo p v) ∧ am_A τ 4 7 v = iI (pP_lo p v + pP_wd p v - 1)
theorem wf_F.on {ks : List Nat} {σ τ : am_St} (h : wf_F ks σ τ) : am_On 4 σ τ := ⟨fun o k _ => h.1 o k, fun o k ho => h.2.1 o k (fun z => ho z.1), h.2.2⟩
theorem bd_1.wf {ks : List Nat} {σ τ υ : am_St} {p : pl_P} {N : Nat} (h : bd_1 σ τ p N) (F : wf_F ks τ υ) (h6 : ks.contains 6 = false) (h7 : ks.contains 7 = false) : bd_1 σ υ p N := by
  obtain ⟨g0, g1, g2, g3, g4, g5, g6, g7⟩ := h
  refine ⟨g0.tr F.on, by rw [F.1]; exact g1, by rw [F.1]; exact g2, by rw [F.1]; exact g3, by rw [F.1]; exact g4, by rw [F.1]; exact g5, by rw [F.1]; exact g6, fun v hv => ?_⟩
  rw [F.2.1 4 6 (fun z => by rw [h6] at z; cases z.2), F.2.1 4 7 (fun z => by rw [h7] at z; cases z.2)]
  exact g7 v hv
def bd_v (τ : am_St) (p : pl_P) (N : Nat) : Prop := ∀ s, s < N → ∀ v, v < pP_nv p → am_A τ 4 8 (3 * s + v) = pw_x p s v
theorem bd_v.wf {ks : List Nat} {τ υ : am_St} {p : pl_P} {N : Nat} (h : bd_v τ p N) (F : wf_F ks τ υ) (h8 : ks.contains 8 = false) : bd_v υ p N := fun s hs v hv => by
  rw [F.2.1 4 8 (fun z => by rw [h8] at z; cases z.2)]; exact h s hs v hv
section BUILD
variable {d N : Nat} {p : pl_P} {σ : am_St}
theorem sp_9_build (h : cp_P σ p N) : am_C false ya_9_build (d + 3) [.ref (am_oid 4), .ref (am_oid 1)] σ (fun r τ => r = none ∧ am_On 4 σ τ ∧ am_Wo τ N (pP_K p) (pP_T p) (pw_tb p) (pw_fl p N) (pw_nx p) ∧ cl_v τ (pP_nv p) (pP_ns p) (pP_nb p) (pP_lo p) (pP_wd p) N) := by
  obtain ⟨ok, ⟨na, hP⟩, i0, i1, i2, i3, i4, i6, hv⟩ := h
  obtain ⟨wo, o1, o2, o3, o4⟩ := id ok
  have hN : N ≤ 600 := wo.2.2.2
  have hnv : pP_nv p ≤ 3 := wo.1
  generalize hQ : (fun (r : Option Value) (τ : am_St) => r = none ∧ am_On 4 σ τ ∧ am_Wo τ N (pP_K p) (pP_T p) (pw_tb p) (pw_fl p N) (pw_nx p) ∧ cl_v τ (pP_nv p) (pP_ns p) (pP_nb p) (pP_lo p) (pP_wd p) N) = Q
  have plc : ∀ τ, am_On 4 σ τ → pl_C τ (pP_nv p) (pP_K p) na (pP_sg p) (pP_fm p) (pP_cf p) (pP_cn p) (pP_g p) (pP_sf p) := fun τ F => hP.same (fun k => F.2.1 1 k (by decide))
  have states : ∀ (j s : Nat) (τ : am_St) (a3 : Option Value), s + j = N → bd_1 σ τ p N → bd_v τ p N → (∀ s', s' < s → am_A τ 4 10 s' = pw_tb p s' ∧ am_A τ 4 9 s' = am_f4 (pw_st p s') (pw_bd p s') false false) → (∀ s', s' < s → ∀ k, k < pP_K p → am_A τ 4 11 (8 * s' + k) = am_oI (-2) (pw_nx p s' k)) → am_T false ya_9_build (d + 3) Q 97 [some (.ref (am_oid 4)), some (.ref (am_oid 1)), some (.int (nI s)), a3] [] τ := by
    intro j
    induction j with
    | zero =>
      intro s τ a3 hs B V hfl hnx
      have : s = N := by omega
      subst this
      obtain ⟨b0, b1, b2, b3, b4, b5, b6, b7⟩ := id B
      have hx : ∀ s', s' < s → ∀ k, k < pP_K p → am_A τ 4 11 (8 * s' + k) = am_oI (-2) (pw_nx p s' k) ∧ ∀ t, pw_nx p s' k = some t → t < s := fun s' hs' k hk => ⟨hnx s' hs' k hk, fun t ht => pw_nx_lt ok ht⟩
      refine kb_9_build_97 (kt := fun _ => ?_) (kf := fun z => absurd (by rw [b6]; exact nI_le (by omega) (by omega)) z)
      refine kb_9_build_151 (hC := sp_9_findComeTo (nx := pw_nx p) (st := pw_st p) (bd := pw_bd p) hN o3 b6 b4 (fun s' hs' => (hfl s' hs').2) hx) (k := fun r τ1 hr => ?_)
      obtain ⟨rfl, F1, hf1⟩ := hr
      have B1 := B.wf F1 rfl rfl
      have e11 : am_A τ1 4 11 = am_A τ 4 11 := F1.2.1 4 11 (by simp)
      refine kb_9_build_155 (hC := sp_9_findDoomed (nx := pw_nx p) (st := pw_st p) (bd := pw_bd p) (cm := rl_clo (nx_R s (pP_K p) (pw_nx p)) (am_lN s (pw_st p))) hN o3 B1.2.2.2.2.2.2.1 B1.2.2.2.2.1 hf1 (fun s' hs' k hk => by rw [e11]; exact hx s' hs' k hk)) (k := fun r τ2 hr => ?_)
      obtain ⟨rfl, F2, hf2⟩ := hr
      have B2 := B1.wf F2 rfl rfl
      have V2 := (V.wf F1 rfl).wf F2 rfl
      obtain ⟨c0, c1, c2, c3, c4, c5, c6, c7⟩ := B2
      refine kb_9_build_159 ?_
      rw [← hQ]
      refine ⟨rfl, c0, ⟨hN, o3, o4, c6, c4, c5, fun s' hs' => ⟨?_, ?_⟩, fun s' hs' k hk => ⟨?_, fun t ht => pw_nx_lt ok ht⟩⟩, wo, c1, c2, c3, c7, V2⟩
      · rw [F2.2.1 4 10 (by simp), F1.2.1 4 10 (by simp)]; exact (hfl s' hs').1
      · exact hf2 s' hs'
      · rw [F2.2.1 4 11 (by simp), e11]; exact hnx s' hs' k hk
    | succ j ih =>
      intro s τ a3 hs B V hfl hnx
      obtain ⟨b0, b1, b2, b3, b4, b5, b6, b7⟩ := id B
      refine kb_9_build_97 (kt := fun z => absurd z (by rw [b6]; exact nI_ge (by omega) (by omega))) (kf := fun _ => ?_)
      refine kb_9_build_105 (hC := sp_9_judge (x := pw_x p s) (plc τ b0) hnv b1 b2 b3 b5 o1 o2 o4 (show s < 600 by omega) (V s (by omega))) (k := fun r τ1 hr => ?_)
      obtain ⟨rfl, hτ1⟩ := hr
      have F1 : wf_F [9, 10] τ τ1 := by rw [hτ1]; exact (wf_F.rf.sA (by rfl) _).sA (by rfl) _
      have g9 : am_A τ1 4 9 = upd (am_A τ 4 9) s (am_f4 (pw_st p s) (pw_bd p s) false false) := by rw [hτ1, am_A_sA, if_neg (by simp), am_A_sA, if_pos ⟨rfl, rfl⟩]; rfl
      have g10 : am_A τ1 4 10 = upd (am_A τ 4 10) s (pw_tb p s) := by rw [hτ1, am_A_sA, if_pos ⟨rfl, rfl⟩]; rfl
      have hfl1 : ∀ s', s' < s + 1 → am_A τ1 4 10 s' = pw_tb p s' ∧ am_A τ1 4 9 s' = am_f4 (pw_st p s') (pw_bd p s') false false := fun s' hs' => by
        rw [g9, g10]
        by_cases c : s' = s
        · rw [c, upd_s, upd_s]; exact ⟨rfl, rfl⟩
        · rw [upd_n c, upd_n c]; exact hfl s' (by omega)
      refine kb_9_build_111 (k := ?_)
      have inner : ∀ (i k : Nat) (υ : am_St), k + i = pP_K p → bd_1 σ υ p N → bd_v υ p N → (∀ s', s' < s + 1 → am_A υ 4 10 s' = pw_tb p s' ∧ am_A υ 4 9 s' = am_f4 (pw_st p s') (pw_bd p s') false false) → (∀ s', s' < s → ∀ k, k < pP_K p → am_A υ 4 11 (8 * s' + k) = am_oI (-2) (pw_nx p s' k)) → (∀ k', k' < k → am_A υ 4 11 (8 * s + k') = am_oI (-2) (pw_nx p s k')) → am_T false ya_9_build (d + 3) Q 113 [some (.ref (am_oid 4)), some (.ref (am_oid 1)), some (.int (nI s)), some (.int (nI k))] [] υ := by
        intro i
        induction i with
        | zero =>
          intro k υ hk B' V' hfl' hnx' hks
          have : k = pP_K p := by omega
          subst this
          refine kb_9_build_113 (kt := fun _ => kb_9_build_145 (k := ?_)) (kf := fun z => absurd (by rw [B'.2.2.2.2.1]; exact nI_le (by omega) (by omega)) z)
          rw [nI_1]
          refine ih (s + 1) υ _ (by omega) B' V' hfl' (fun s' hs' k hk => ?_)
          by_cases c : s' = s
          · rw [c]; exact hks k hk
          · exact hnx' s' (by omega) k hk
        | succ i ihi =>
          intro k υ hk B' V' hfl' hnx' hks
          obtain ⟨q0, q1, q2, q3, q4, q5, q6, q7⟩ := id B'
          refine kb_9_build_113 (kt := fun z => absurd z (by rw [q4]; exact nI_ge (by omega) (by omega))) (kf := fun _ => ?_)
          refine kb_9_build_121 (hC := sp_9_targetOf (lo := pP_lo p) (wd := pP_wd p) (N := N) (x := pw_x p s) (k := k) (plc υ q0) wo q1 q7 (show s < 600 by omega) (by omega) o3 (V' s (by omega))) (k := fun r τ2 hr => ?_)
          obtain ⟨rfl, G, hτ2⟩ := hr
          rw [am_ix8]
          refine kb_9_build_138 (hi0 := vp_in_nI (by omega) (by omega)) (k := ?_)
          rw [nI_1, nI_clamp (show 8 * s + k < 2 ^ 31 by omega)]
          obtain ⟨φ, hφ⟩ : ∃ φ, φ = am_sA τ2 4 11 (upd (am_A τ2 4 11) (8 * s + k) (am_oI (-2) (pw_nx p s k))) := ⟨_, rfl⟩
          have F2 : wf_F [11, 12] υ φ := by rw [hφ, hτ2]; exact (wf_F.rf.sA (by rfl) _).sA (by rfl) _
          have g11 : am_A φ 4 11 = upd (am_A υ 4 11) (8 * s + k) (am_oI (-2) (pw_nx p s k)) := by rw [hφ, am_A_sA, if_pos ⟨rfl, rfl⟩, hτ2, am_A_sA, if_neg (by simp)]
          have e : am_sA τ2 4 11 (upd (am_A τ2 4 11) (8 * s + k) (am_oI (-2) (pl_nx (pP_nv p) (pP_lo p) (pP_wd p) (pP_sg p) (pP_fm p) (pP_cf p) (pP_cn p) (pP_g p) (pP_sf p) (pw_x p s) k))) = φ := hφ.symm
          rw [e]
          refine ihi (k + 1) φ (by omega) (B'.wf F2 rfl rfl) (V'.wf F2 rfl) (fun s' hs' => by rw [F2.2.1 4 10 (by simp), F2.2.1 4 9 (by simp)]; exact hfl' s' hs') (fun s' hs' k' hk' => by rw [g11, upd_n (by omega)]; exact hnx' s' hs' k' hk') (fun k' hk' => ?_)
          rw [g11]
          by_cases c : k' = k
          · rw [c, upd_s]
          · rw [upd_n (by omega)]; exact hks k' (by omega)
      have := inner (pP_K p) 0 τ1 (by omega) (B.wf F1 rfl rfl) (V.wf F1 rfl) hfl1 (fun s' hs' k hk => by rw [F1.2.1 4 11 (by simp)]; exact hnx s' hs' k hk) (fun k' hk' => absurd hk' (Nat.not_lt_zero k'))
      rw [nI_0] at this
      exact this
  -- the bounds
  have copy : ∀ (j v : Nat) (τ : am_St), v + j = 3 → am_On 4 σ τ → am_I τ 4 0 = nI (pP_nv p) → am_I τ 4 1 = nI (pP_ns p) → am_I τ 4 2 = nI (pP_nb p) → am_I τ 4 3 = nI (pP_K p) → am_I τ 4 4 = nI (pP_T p) → am_I τ 4 5 = nI N → (∀ w, w < v → am_A τ 4 6 w = am_A σ 1 8 w ∧ am_A τ 4 7 w = am_A σ 1 9 w) → am_T false ya_9_build (d + 3) Q 56 [some (.ref (am_oid 4)), some (.ref (am_oid 1)), some (.int (nI v)), none] [] τ := by
    intro j
    induction j with
    | zero =>
      intro v τ hv3 F c0 c1 c2 c3 c4 c5 hw
      have : v = 3 := by omega
      subst this
      have B : bd_1 σ τ p N := ⟨F, c0, c1, c2, c3, c4, c5, fun w hww => by rw [(hw w (by omega)).1, (hw w (by omega)).2]; exact hv w hww⟩
      refine kb_9_build_56 (kt := fun _ => ?_) (kf := fun z => absurd (show (3 : Int32) ≤ nI 3 by decide) z)
      refine kb_9_build_91 (hC := sp_9_layOut wo c0 c5 B.2.2.2.2.2.2.2) (k := fun r τ1 hr => ?_)
      obtain ⟨rfl, F1, V1⟩ := hr
      refine kb_9_build_95 (k := ?_)
      have := states N 0 τ1 none (by omega) (B.wf F1 rfl rfl) V1 (fun s hs => absurd hs (Nat.not_lt_zero s)) (fun s hs => absurd hs (Nat.not_lt_zero s))
      rw [nI_0] at this
      exact this
    | succ j ih =>
      intro v τ hv3 F c0 c1 c2 c3 c4 c5 hw
      have cv : (nI v).toNatClampNeg = v := nI_clamp (by omega)
      have vv : vp_in (nI v) 3 := vp_in_nI (by omega) (by omega)
      refine kb_9_build_56 (kt := fun z => absurd z (by rw [show (3 : Int32) = nI 3 from rfl]; exact nI_ge (by omega) (by omega))) (kf := fun _ => ?_)
      refine kb_9_build_61 (hc0 := rfl) (hi0 := vv) (hi1 := vv) (hi2 := vv) (hi3 := vv) (k := ?_)
      rw [cv, nI_1, F.2.1 1 8 (by decide), F.2.1 1 9 (by decide)]
      refine ih (v + 1) _ (by omega) ((F.sA _ _).sA _ _) c0 c1 c2 c3 c4 c5 (fun w hww => ?_)
      rw [am_A_sA, if_neg (by simp), am_A_sA, if_pos ⟨rfl, rfl⟩, am_A_sA, if_pos ⟨rfl, rfl⟩]
      by_cases c : w = v
      · rw [c, upd_s, upd_s]; exact ⟨rfl, rfl⟩
      · rw [upd_n c, upd_n c]; exact hw w (by omega)
  refine am_enter rfl (by simp [Value.category]) (Nat.le_of_ble_eq_true rfl) ?_
  refine kb_9_build_0 (hc0 := rfl) (k := ?_)
  rw [i0, i1, i2, i3, i4, i6, if_neg (show ¬ (600 : Int32) < nI N by rw [show (600 : Int32) = nI 600 from rfl]; exact nI_nlt (by omega) (by omega))]
  have := copy 3 0 (am_sI (am_sI (am_sI (am_sI (am_sI (am_sI σ 4 0 (nI (pP_nv p))) 4 1 (nI (pP_ns p))) 4 2 (nI (pP_nb p))) 4 3 (nI (pP_K p))) 4 4 (nI (pP_T p))) 4 5 (nI N)) rfl ((((((am_On.rf.sI _ _).sI _ _).sI _ _).sI _ _).sI _ _).sI _ _) rfl rfl rfl rfl rfl rfl (fun w hw => absurd hw (Nat.not_lt_zero w))
  rw [nI_0] at this
  exact this
end BUILD
