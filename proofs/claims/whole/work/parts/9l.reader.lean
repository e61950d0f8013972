/-! the class's reader: one token on, faults, terms, sums -/
def rd_T (σ : am_St) (S : Nat → tk_T) (m nv : Nat) (nm : Nat → Nat) : Prop := m ≤ 900 ∧ am_I σ 3 0 = nI (m + 1) ∧ (S m).1 = 0 ∧ (∀ t, t ≤ m → (S t).1 < 256 ∧ (S t).2.1 ≤ 900 ∧ (S t).2.2.2 < 387420489) ∧ (∀ t, t ≤ m → am_A σ 3 1 t = nI (S t).1 ∧ am_A σ 3 2 t = nI (S t).2.1 ∧ am_A σ 3 3 t = nI (S t).2.2.2 ∧ am_A σ 3 4 t = am_oI (-1) (pa_v nv nm (S t))) ∧ nv ≤ 3
def rd_K (σ : am_St) (S : Nat → tk_T) (m i : Nat) : Prop := i ≤ m ∧ am_I σ 2 2 = nI i ∧ am_I σ 2 3 = nI (S i).1 ∧ am_I σ 2 4 = nI (S i).2.1 ∧ am_I σ 2 5 = nI (S i).2.2.2 ∧ am_I σ 2 10 = 0 ∧ am_I σ 2 11 = -1
def rd_A (σ : am_St) (S : Nat → tk_T) (m nv : Nat) (nm : Nat → Nat) (i : Nat) : Prop := rd_T σ S m nv nm ∧ rd_K σ S m i ∧ am_I σ 2 6 = am_oI (-1) (pa_v nv nm (S i))
def rd_ad (σ τ : am_St) : Prop := am_On 2 σ τ ∧ (∀ k, am_A τ 2 k = am_A σ 2 k) ∧ am_I τ 2 7 = am_I σ 2 7 ∧ am_I τ 2 8 = am_I σ 2 8
def rd_R {X : Type} (res : pa_F ⊕ X) (ok : X → am_St → Prop) (r : Option Value) (τ : am_St) : Prop := match res with
  | .inl e => r = some (.int 0) ∧ am_I τ 2 10 = nI e.1 ∧ am_I τ 2 11 = nI e.2
  | .inr x => r = some (.int 1) ∧ ok x τ
theorem pa_ix_lt {nm : Nat → Nat} {w : Nat} : ∀ {k v : Nat}, pa_ix nm w k = some v → v < k ∧ nm v = w := by
  intro k
  induction k with
  | zero => intro v h; cases h
  | succ k ih =>
    intro v h
    unfold pa_ix at h
    split at h
    · rename_i u hu
      cases h
      have := ih hu
      exact ⟨by omega, this.2⟩
    · split at h
      · rename_i c
        cases h
        exact ⟨Nat.lt_succ_self _, c⟩
      · cases h
theorem pa_v_lt {nv v : Nat} {nm : Nat → Nat} {x : tk_T} (h : pa_v nv nm x = some v) : v < nv ∧ x.1 = 1 ∧ nm v = x.2.2.2 := by
  unfold pa_v at h
  split at h
  · rename_i c
    have := pa_ix_lt h
    exact ⟨this.1, c, this.2⟩
  · cases h
theorem pa_oI_n {x : Option Nat} (h : ∀ v, x = some v → v < 2 ^ 31) : (am_oI (-1) x < 0) = (x = none) := by
  cases x with
  | none => exact propext ⟨fun _ => rfl, fun _ => by show (-1 : Int32) < 0; decide⟩
  | some v => exact propext ⟨fun z => absurd z (nI_pos (h v rfl)), fun z => by cases z⟩
theorem pa_oI_p {x : Option Nat} (h : ∀ v, x = some v → v < 2 ^ 31) : (0 ≤ am_oI (-1) x) = ¬ (x = none) := by
  cases x with
  | none => exact propext ⟨fun z => absurd z (by show ¬ (0 : Int32) ≤ -1; decide), fun z => absurd rfl z⟩
  | some v => exact propext ⟨fun _ => by simp, fun _ => nI_pos' (h v rfl)⟩
section READER
variable {d m nv i : Nat} {S : Nat → tk_T} {nm : Nat → Nat} {σ : am_St}
theorem rd_T.on {τ : am_St} (h : rd_T σ S m nv nm) (F : am_On 2 σ τ) : rd_T τ S m nv nm := by
  obtain ⟨h1, h2, h3, h4, h5, h6⟩ := h
  exact ⟨h1, (F.1 3 0 (by decide)).trans h2, h3, h4, fun t ht => by rw [F.2.1 3 1 (by decide), F.2.1 3 2 (by decide), F.2.1 3 3 (by decide), F.2.1 3 4 (by decide)]; exact h5 t ht, h6⟩
theorem rd_A.sA {k : Nat} {f : Nat → Int32} (h : rd_A σ S m nv nm i) : rd_A (am_sA σ 2 k f) S m nv nm i := ⟨h.1.on (am_On.rf.sA _ _), h.2.1, h.2.2⟩
theorem rd_A.vb (h : rd_A σ S m nv nm i) : ∀ v, pa_v nv nm (S i) = some v → v < 2 ^ 31 := fun v hv => by
  have := (pa_v_lt hv).1
  have := h.1.2.2.2.2.2
  omega
theorem rd_ad.tr {τ υ : am_St} (h : rd_ad σ τ) (h' : rd_ad τ υ) : rd_ad σ υ := ⟨h.1.tr h'.1, fun k => (h'.2.1 k).trans (h.2.1 k), h'.2.2.1.trans h.2.2.1, h'.2.2.2.trans h.2.2.2⟩
theorem sp_4_adv {j : Nat} (hT : rd_T σ S m nv nm) (hj : j ≤ m) (h2 : am_I σ 2 2 + 1 = nI j) (h10 : am_I σ 2 10 = 0) (h11 : am_I σ 2 11 = -1) : am_C false ya_4_advance d [.ref (am_oid 2)] σ (fun r τ => r = none ∧ rd_ad σ τ ∧ rd_A τ S m nv nm j) := by
  obtain ⟨hm, hc, hS, hb, ht, hv⟩ := hT
  have v : vp_in (am_I σ 2 2 + 1) 901 := by rw [h2]; exact vp_in_nI (by omega) (by omega)
  have cl : (am_I σ 2 2 + 1).toNatClampNeg = j := by rw [h2]; exact nI_clamp (by omega)
  refine am_enter rfl (by simp [Value.category]) (Nat.le_of_ble_eq_true rfl) ?_
  refine kb_4_advance_0 (kt := fun z => absurd z (by rw [hc, h2]; exact nI_ge (by omega) (by omega))) (kf := fun _ => ?_)
  refine kb_4_advance_16 (hi0 := v) (hi1 := v) (hi2 := v) (hi3 := v) (k := kb_4_advance_90 ?_)
  rw [cl, h2]
  obtain ⟨τ, hτ⟩ : ∃ τ, τ = am_sI (am_sI (am_sI (am_sI (am_sI σ 2 2 (nI j)) 2 3 (am_A σ 3 1 j)) 2 4 (am_A σ 3 2 j)) 2 5 (am_A σ 3 3 j)) 2 6 (am_A σ 3 4 j) := ⟨_, rfl⟩
  rw [← hτ]
  have F : am_On 2 σ τ := by rw [hτ]; exact ((((am_On.rf.sI _ _).sI _ _).sI _ _).sI _ _).sI _ _
  have hj' := ht j hj
  refine ⟨rfl, ⟨F, fun k => by rw [hτ]; rfl, by rw [hτ]; simp [am_I_sI], by rw [hτ]; simp [am_I_sI]⟩, rd_T.on ⟨hm, hc, hS, hb, ht, hv⟩ F, ⟨hj, ?_, ?_, ?_, ?_, ?_, ?_⟩, ?_⟩
  · rw [hτ]; simp [am_I_sI]
  · rw [← hj'.1, hτ]; simp [am_I_sI]
  · rw [← hj'.2.1, hτ]; simp [am_I_sI]
  · rw [← hj'.2.2.1, hτ]; simp [am_I_sI]
  · rw [← h10, hτ]; simp [am_I_sI]
  · rw [← h11, hτ]; simp [am_I_sI]
  · rw [← hj'.2.2.2, hτ]; simp [am_I_sI]
theorem sp_4_advance (hT : rd_T σ S m nv nm) (hK : rd_K σ S m i) (h0 : (S i).1 ≠ 0) : am_C false ya_4_advance d [.ref (am_oid 2)] σ (fun r τ => r = none ∧ rd_ad σ τ ∧ rd_A τ S m nv nm (i + 1)) := by
  have hi : i ≠ m := fun z => h0 (by rw [z]; exact hT.2.2.1)
  have := hK.1
  exact sp_4_adv hT (by omega) (by rw [hK.2.1, nI_1]) hK.2.2.2.2.2.1 hK.2.2.2.2.2.2
theorem sp_4_refuse (f p : Int32) : am_C false ya_4_refuse d [.ref (am_oid 2), .int f, .int p] σ (fun r τ => am_On 2 σ τ ∧ r = some (.int 0) ∧ am_I τ 2 10 = f ∧ am_I τ 2 11 = p) :=
  am_enter rfl (by simp [Value.category]) (Nat.le_of_ble_eq_true rfl) (kb_4_refuse_0 ⟨(am_On.rf.sI _ _).sI _ _, rfl, by simp [am_I_sI], by simp [am_I_sI]⟩)
theorem rd_k {x : Nat} (hT : rd_T σ S m nv nm) (hi : i ≤ m) (hx : x < 256) : (nI (S i).1 = nI x) = ((S i).1 = x) := by
  have := (hT.2.2.2.1 i hi).1
  exact propext ⟨fun z => nI_inj (by omega) (by omega) z, fun z => by rw [z]⟩
theorem sp_4_expect {c : Nat} (hT : rd_T σ S m nv nm) (hK : rd_K σ S m i) (hc : c < 256) (hc0 : c ≠ 0) : am_C false ya_4_expect (d + 1) [.ref (am_oid 2), .int (nI c)] σ (fun r τ => am_On 2 σ τ ∧ rd_R (if (S i).1 = c then .inr (i + 1) else .inl (1, (S i).2.1)) (fun j τ => rd_ad σ τ ∧ rd_A τ S m nv nm j) r τ) := by
  refine am_enter rfl (by simp [Value.category]) (Nat.le_of_ble_eq_true rfl) ?_
  by_cases q : (S i).1 = c
  · rw [if_pos q]
    refine kb_4_expect_0 (kf := fun z => absurd (by rw [hK.2.2.1, q]) z) (kt := fun _ => ?_)
    refine kb_4_expect_18 (hC := sp_4_advance hT hK (by rw [q]; exact hc0)) (k := fun r τ hr => ?_)
    obtain ⟨rfl, F, hA⟩ := hr
    exact kb_4_expect_22 ⟨F.1, rfl, F, hA⟩
  · rw [if_neg q]
    refine kb_4_expect_0 (kt := fun z => absurd (by rw [hK.2.2.1, rd_k hT hK.1 hc] at z; exact z) q) (kf := fun _ => ?_)
    refine kb_4_expect_8 (hC := sp_4_refuse _ _) (k := fun r τ hr => ?_)
    obtain ⟨F, rfl, a, b⟩ := hr
    exact kb_4_expect_17 (hb0 := rfl) (hq := ⟨F, rfl, a, by rw [b]; exact hK.2.2.2.1⟩)
theorem rd_w {w : Nat} (hT : rd_T σ S m nv nm) (hK : rd_K σ S m i) (hw : w < 2 ^ 31) : (am_I σ 2 3 = 1 ∧ am_I σ 2 5 = nI w) = (pa_w w (S i) = true) := by
  have h1 := hT.2.2.2.1 i hK.1
  rw [hK.2.2.1, hK.2.2.2.2.1]
  unfold pa_w
  rw [decide_eq_true_iff]
  refine propext ⟨fun z => ⟨nI_inj (by omega) (by decide) (show _ = nI 1 from z.1), nI_inj (by omega) hw z.2⟩, fun z => ⟨by rw [z.1]; rfl, by rw [z.2]⟩⟩
theorem sp_4_takeWord {w : Nat} (hT : rd_T σ S m nv nm) (hK : rd_K σ S m i) (hw : w < 2 ^ 31) : am_C false ya_4_takeWord (d + 1) [.ref (am_oid 2), .int (nI w)] σ (fun r τ => r = some (.int (am_bI (pa_w w (S i)))) ∧ (pa_w w (S i) = false → τ = σ) ∧ (pa_w w (S i) = true → rd_ad σ τ ∧ rd_A τ S m nv nm (i + 1))) := by
  refine am_enter rfl (by simp [Value.category]) (Nat.le_of_ble_eq_true rfl) ?_
  have hE := rd_w hT hK hw
  cases e : pa_w w (S i) with
  | true =>
    rw [e] at hE
    have hz := hE.mpr rfl
    refine kb_4_takeWord_0 (kt := fun z => absurd hz.1 z) (kf := fun _ => ?_)
    refine kb_4_takeWord_8 (kf := fun z => absurd hz.2 z) (kt := fun _ => ?_)
    refine kb_4_takeWord_18 (hC := sp_4_advance hT hK (fun z => by unfold pa_w at e; have := of_decide_eq_true e; omega)) (k := fun r τ hr => ?_)
    obtain ⟨rfl, F, hA⟩ := hr
    exact kb_4_takeWord_22 ⟨rfl, fun z => absurd z (by decide), fun _ => ⟨F, hA⟩⟩
  | false =>
    rw [e] at hE
    have out : am_T false ya_4_takeWord (d + 1) (fun r τ => r = some (.int (am_bI false)) ∧ (false = false → τ = σ) ∧ (false = true → rd_ad σ τ ∧ rd_A τ S m nv nm (i + 1))) 16 [some (.ref (am_oid 2)), some (.int (nI w))] [] σ := kb_4_takeWord_16 ⟨rfl, fun _ => rfl, fun z => absurd z (by decide)⟩
    refine kb_4_takeWord_0 (kt := fun _ => out) (kf := fun z1 => ?_)
    exact kb_4_takeWord_8 (kf := fun _ => out) (kt := fun z2 => absurd (hE.mp ⟨z1, z2⟩) (by decide))
theorem sp_4_beginsTerm (h : rd_A σ S m nv nm i) : am_C false ya_4_beginsTerm d [.ref (am_oid 2)] σ (fun r τ => τ = σ ∧ r = some (.int (am_bI (pa_bt S nv nm i)))) := by
  obtain ⟨hT, hK, hV⟩ := h
  refine am_enter rfl (by simp [Value.category]) (Nat.le_of_ble_eq_true rfl) ?_
  have yes : pa_bt S nv nm i = true → am_T false ya_4_beginsTerm d (fun r τ => τ = σ ∧ r = some (.int (am_bI (pa_bt S nv nm i)))) 15 [some (.ref (am_oid 2))] [] σ := fun z => by
    rw [z]; exact kb_4_beginsTerm_15 (k := kb_4_beginsTerm_20 (hb0 := rfl) (hq := ⟨rfl, rfl⟩))
  by_cases q : (S i).1 = 2
  · exact kb_4_beginsTerm_0 (kt := fun _ => yes (by unfold pa_bt; rw [q]; rfl)) (kf := fun z => absurd (by rw [hK.2.2.1, q]; rfl) z)
  · have q1 : ((S i).1 == 2) = false := by simpa using q
    refine kb_4_beginsTerm_0 (kt := fun z => absurd (by rw [hK.2.2.1, show (2 : Int32) = nI 2 from rfl, rd_k hT hK.1 (by decide)] at z; exact z) q) (kf := fun _ => ?_)
    have hE := pa_oI_n (rd_A.vb ⟨hT, hK, hV⟩)
    cases e : pa_v nv nm (S i) with
    | none =>
      have : pa_bt S nv nm i = false := by unfold pa_bt; rw [q1, e]; rfl
      rw [this]
      exact kb_4_beginsTerm_8 (kt := fun _ => kb_4_beginsTerm_19 (k := kb_4_beginsTerm_20 (hb0 := rfl) (hq := ⟨rfl, rfl⟩))) (kf := fun z => absurd (by rw [hV, hE]; exact e) z)
    | some v => exact kb_4_beginsTerm_8 (kf := fun _ => yes (by unfold pa_bt; rw [e, q1]; rfl)) (kt := fun z => absurd (by rw [hV, hE, e] at z; exact z) (by simp))
def rd_f (f : Nat → Int32) (τ : am_St) : Prop := ∀ j, j < 4 → am_A τ 2 9 j = f j
theorem sp_4_readTerm {f : Nat → Int32} (sg : Int32) (h : rd_A σ S m nv nm i) (hf : rd_f f σ) : am_C false ya_4_readTerm (d + 1) [.ref (am_oid 2), .int sg] σ (fun r τ => am_On 2 σ τ ∧ rd_R (pa_tm S nv nm i sg f) (fun x τ => rd_A τ S m nv nm x.1 ∧ rd_f x.2 τ) r τ) := by
  refine am_enter rfl (by simp [Value.category]) (Nat.le_of_ble_eq_true rfl) ?_
  /- the token at which a variable must stand -/
  have vr : ∀ (k : Nat) (x : Int32) (τ : am_St) (res : pa_F ⊕ (Nat × (Nat → Int32))), rd_A τ S m nv nm k → rd_f f τ → am_On 2 σ τ → (pa_v nv nm (S k) = none → res = .inl (1, (S k).2.1)) → (∀ v, pa_v nv nm (S k) = some v → res = .inr (k + 1, upd f (1 + v) (f (1 + v) + x))) → am_T false ya_4_readTerm (d + 1) (fun r τ => am_On 2 σ τ ∧ rd_R res (fun x τ => rd_A τ S m nv nm x.1 ∧ rd_f x.2 τ) r τ) 65 [some (.ref (am_oid 2)), some (.int sg), some (.int x)] [] τ := by
    intro k x τ res hA hf F r1 r2
    have hE := pa_oI_p hA.vb
    cases e : pa_v nv nm (S k) with
    | none =>
      rw [r1 e]
      refine kb_4_readTerm_65 (kt := fun z => absurd e (by rw [hA.2.2, hE] at z; exact z)) (kf := fun _ => ?_)
      refine kb_4_readTerm_72 (hC := sp_4_refuse _ _) (k := fun r υ hr => ?_)
      obtain ⟨F2, rfl, a, b⟩ := hr
      exact kb_4_readTerm_81 (hb0 := rfl) (hq := ⟨F.tr F2, rfl, a, by rw [b]; exact hA.2.1.2.2.2.1⟩)
    | some v =>
      rw [r2 v e]
      obtain ⟨v1, v2, -⟩ := pa_v_lt e
      have hn := hA.1.2.2.2.2.2
      have e1 : (1 : Int32) + am_I τ 2 6 = nI (1 + v) := by rw [hA.2.2, e]; exact nI_add 1 v
      have vi : vp_in (1 + am_I τ 2 6) 4 := by rw [e1]; exact vp_in_nI (by omega) (by omega)
      refine kb_4_readTerm_65 (kf := fun z => absurd (by rw [hA.2.2, hE, e]; simp) z) (kt := fun _ => ?_)
      refine kb_4_readTerm_82 (hi0 := vi) (hi1 := vi) (hC := sp_4_advance (hA.1.on (am_On.rf.sA _ _)) hA.2.1 (by rw [v2]; decide)) (k := fun r υ hr => ?_)
      obtain ⟨rfl, F2, hA2⟩ := hr
      refine kb_4_readTerm_101 ⟨(F.sA _ _).tr F2.1, rfl, hA2, fun j hj => ?_⟩
      rw [F2.2.1 9, am_A_sA, if_pos ⟨rfl, rfl⟩, e1, nI_clamp (show 1 + v < 2 ^ 31 by omega)]
      show upd (am_A τ 2 9) (1 + v) _ j = upd f (1 + v) _ j
      by_cases q : j = 1 + v
      · rw [q, upd_s, upd_s, hf (1 + v) (by omega)]
      · rw [upd_n q, upd_n q]; exact hf j hj
  have hb := h.1.2.2.2.1 i h.2.1.1
  by_cases q : (S i).1 = 2
  · refine kb_4_readTerm_0 (kt := fun z => absurd (by rw [h.2.1.2.2.1, q]; rfl) z) (kf := fun _ => ?_)
    by_cases q2 : 99 < (S i).2.2.2
    · have : pa_tm S nv nm i sg f = .inl (2, (S i).2.1) := by unfold pa_tm; rw [if_pos q, if_pos q2]
      rw [this]
      refine kb_4_readTerm_10 (kt := fun z => absurd z (by rw [h.2.1.2.2.2.2.1, show (99 : Int32) = nI 99 from rfl]; exact nI_ge q2 (by omega))) (kf := fun _ => ?_)
      refine kb_4_readTerm_19 (hC := sp_4_refuse _ _) (k := fun r υ hr => ?_)
      obtain ⟨F2, rfl, a, b⟩ := hr
      exact kb_4_readTerm_28 (hb0 := rfl) (hq := ⟨F2, rfl, a, by rw [b]; exact h.2.1.2.2.2.1⟩)
    · refine kb_4_readTerm_10 (kf := fun z => absurd (by rw [h.2.1.2.2.2.2.1, show (99 : Int32) = nI 99 from rfl]; exact nI_le (by omega) (by omega)) z) (kt := fun _ => ?_)
      refine kb_4_readTerm_29 (hC := sp_4_advance h.1 h.2.1 (by rw [q]; decide)) (k := fun r τ hr => ?_)
      obtain ⟨rfl, F, hA⟩ := hr
      rw [h.2.1.2.2.2.2.1]
      have hf2 : rd_f f τ := fun j hj => by rw [F.2.1 9]; exact hf j hj
      by_cases q3 : (S (i + 1)).1 = 42
      · refine kb_4_readTerm_40 (kf := fun z => absurd (by rw [hA.2.1.2.2.1, q3]; rfl) z) (kt := fun _ => ?_)
        refine kb_4_readTerm_61 (hC := sp_4_advance hA.1 hA.2.1 (by rw [q3]; decide)) (k := fun r υ hr => ?_)
        obtain ⟨rfl, F2, hA2⟩ := hr
        refine vr (i + 2) _ υ _ hA2 (fun j hj => by rw [F2.2.1 9]; exact hf2 j hj) (F.1.tr F2.1) (fun z => ?_) (fun v z => ?_)
        · unfold pa_tm; rw [if_pos q, if_neg q2, if_pos q3, z]
        · unfold pa_tm; rw [if_pos q, if_neg q2, if_pos q3, z]
      · have : pa_tm S nv nm i sg f = .inr (i + 1, upd f 0 (f 0 + sg * nI (S i).2.2.2)) := by unfold pa_tm; rw [if_pos q, if_neg q2, if_neg q3]
        rw [this]
        refine kb_4_readTerm_40 (kt := fun z => absurd (by rw [hA.2.1.2.2.1, show (42 : Int32) = nI 42 from rfl, rd_k hA.1 hA.2.1.1 (by decide)] at z; exact z) q3) (kf := fun _ => ?_)
        refine kb_4_readTerm_49 ⟨F.1.sA _ _, rfl, hA.sA, fun j hj => ?_⟩
        rw [am_A_sA, if_pos ⟨rfl, rfl⟩]
        show upd (am_A τ 2 9) 0 _ j = upd f 0 _ j
        by_cases q : j = 0
        · rw [q, upd_s, upd_s, hf2 0 (by decide)]
        · rw [upd_n q, upd_n q]; exact hf2 j hj
  · refine kb_4_readTerm_0 (kf := fun z => absurd (by rw [h.2.1.2.2.1, show (2 : Int32) = nI 2 from rfl, rd_k h.1 h.2.1.1 (by decide)] at z; exact z) q) (kt := fun _ => ?_)
    refine vr i sg σ _ h hf am_On.rf (fun z => ?_) (fun v z => ?_)
    · unfold pa_tm; rw [if_neg q, z]
    · unfold pa_tm; rw [if_neg q, z]
theorem sp_4_readExpression {f : Nat → Int32} (side : Int32) (h : rd_A σ S m nv nm i) (hf : rd_f f σ) : am_C false ya_4_readExpression (d + 2) [.ref (am_oid 2), .int side] σ (fun r τ => am_On 2 σ τ ∧ rd_R (pa_sm S nv nm side 12 i side f) (fun x τ => rd_A τ S m nv nm x.1 ∧ rd_f x.2 τ) r τ) := by
  have loop : ∀ (n t k : Nat) (sg : Int32) (g : Nat → Int32) (τ : am_St), t + n = 12 → rd_A τ S m nv nm k → rd_f g τ → am_On 2 σ τ → am_T false ya_4_readExpression (d + 2) (fun r τ => am_On 2 σ τ ∧ rd_R (pa_sm S nv nm side n k sg g) (fun x τ => rd_A τ S m nv nm x.1 ∧ rd_f x.2 τ) r τ) 4 [some (.ref (am_oid 2)), some (.int side), some (.int sg), some (.int (nI t))] [] τ := by
    intro n
    induction n with
    | zero =>
      intro t k sg g τ ht hA hg F
      have : t = 12 := by omega
      subst this
      refine kb_4_readExpression_4 (kt := fun z => absurd z (by show ¬ (12 : Int32) < nI 12; decide)) (kf := fun _ => ?_)
      refine kb_4_readExpression_10 (hC := sp_4_beginsTerm hA) (k := fun r υ hr => ?_)
      obtain ⟨rfl, rfl⟩ := hr
      have e0 : pa_sm S nv nm side 0 k sg g = .inl (pa_no S nv nm k) := rfl
      rw [e0]
      unfold pa_no
      cases e : pa_bt S nv nm k with
      | false =>
        refine kb_4_readExpression_14 (kt := fun z => absurd rfl z) (kf := fun _ => ?_)
        refine kb_4_readExpression_17 (hC := sp_4_refuse _ _) (k := fun r ω hr => ?_)
        obtain ⟨F2, rfl, a, b⟩ := hr
        exact kb_4_readExpression_26 (hb0 := rfl) (hq := ⟨F.tr F2, rfl, a, by rw [b]; exact hA.2.1.2.2.2.1⟩)
      | true =>
        refine kb_4_readExpression_14 (kf := fun z => absurd z (by decide)) (kt := fun _ => ?_)
        refine kb_4_readExpression_27 (kt := fun z => absurd rfl z) (kf := fun _ => ?_)
        refine kb_4_readExpression_33 (hC := sp_4_refuse _ _) (k := fun r ω hr => ?_)
        obtain ⟨F2, rfl, a, b⟩ := hr
        exact kb_4_readExpression_42 (hb0 := rfl) (hq := ⟨F.tr F2, rfl, a, by rw [b]; exact hA.2.1.2.2.2.1⟩)
    | succ n ih =>
      intro t k sg g τ ht hA hg F
      have e1 : pa_sm S nv nm side (n + 1) k sg g = match pa_tm S nv nm k sg g with
        | .inl e => .inl e
        | .inr x => if (S x.1).1 = 43 then pa_sm S nv nm side n (x.1 + 1) side x.2 else if (S x.1).1 = 45 then pa_sm S nv nm side n (x.1 + 1) (-side) x.2 else .inr x := rfl
      refine kb_4_readExpression_4 (kt := fun z => absurd z (by rw [show (12 : Int32) = nI 12 from rfl]; exact nI_nlt (by omega) (by omega))) (kf := fun _ => ?_)
      refine kb_4_readExpression_10 (hC := sp_4_beginsTerm hA) (k := fun r υ hr => ?_)
      obtain ⟨rfl, rfl⟩ := hr
      cases e : pa_bt S nv nm k with
      | false =>
        rw [pa_tm_no e] at e1
        rw [e1]
        refine kb_4_readExpression_14 (kt := fun z => absurd rfl z) (kf := fun _ => ?_)
        refine kb_4_readExpression_17 (hC := sp_4_refuse _ _) (k := fun r ω hr => ?_)
        obtain ⟨F2, rfl, a, b⟩ := hr
        exact kb_4_readExpression_26 (hb0 := rfl) (hq := ⟨F.tr F2, rfl, a, by rw [b]; exact hA.2.1.2.2.2.1⟩)
      | true =>
        refine kb_4_readExpression_14 (kf := fun z => absurd z (by decide)) (kt := fun _ => ?_)
        refine kb_4_readExpression_27 (kf := fun z => absurd (nI_inj (by omega) (by decide) (show nI t = nI 12 from z)) (by omega)) (kt := fun _ => ?_)
        refine kb_4_readExpression_43 (hC := sp_4_readTerm sg hA hg) (k := fun r ω hr => ?_)
        obtain ⟨F2, hr⟩ := hr
        cases ex : pa_tm S nv nm k sg g with
        | inl e' =>
          rw [ex] at hr e1
          obtain ⟨rfl, a, b⟩ := hr
          rw [e1]
          exact kb_4_readExpression_48 (kt := fun z => absurd rfl z) (kf := fun _ => kb_4_readExpression_51 ⟨F.tr F2, rfl, a, b⟩)
        | inr x =>
          rw [ex] at hr e1
          obtain ⟨rfl, hA2, hg2⟩ := hr
          rw [e1]
          show am_T false ya_4_readExpression (d + 2) (fun r τ => am_On 2 σ τ ∧ rd_R (if (S x.1).1 = 43 then pa_sm S nv nm side n (x.1 + 1) side x.2 else if (S x.1).1 = 45 then pa_sm S nv nm side n (x.1 + 1) (-side) x.2 else .inr x) (fun x τ => rd_A τ S m nv nm x.1 ∧ rd_f x.2 τ) r τ) _ _ _ _
          have ek : ∀ y, y < 256 → (am_I ω 2 3 = nI y) = ((S x.1).1 = y) := fun y hy => by rw [hA2.2.1.2.2.1, rd_k hA2.1 hA2.2.1.1 hy]
          have n43 := ek 43 (by decide)
          have n45 := ek 45 (by decide)
          refine kb_4_readExpression_48 (kf := fun z => absurd z (by decide)) (kt := fun _ => ?_)
          by_cases q1 : (S x.1).1 = 43
          · rw [if_pos q1]
            refine kb_4_readExpression_53 (kf := fun z => absurd (n43.mpr q1) z) (kt := fun _ => ?_)
            refine kb_4_readExpression_73 (kt := fun z => absurd (n43.mpr q1) z) (kf := fun _ => kb_4_readExpression_82 (k := ?_))
            refine kb_4_readExpression_88 (hC := sp_4_advance hA2.1 hA2.2.1 (by rw [q1]; decide)) (k := fun r ψ hr => ?_)
            obtain ⟨rfl, F3, hA3⟩ := hr
            refine kb_4_readExpression_93 (k := ?_)
            rw [nI_1]
            exact ih (t + 1) _ side _ ψ (by omega) hA3 (fun j hj => by rw [F3.2.1 9]; exact hg2 j hj) ((F.tr F2).tr F3.1)
          · rw [if_neg q1]
            refine kb_4_readExpression_53 (kt := fun z => absurd (n43.mp z) q1) (kf := fun _ => ?_)
            by_cases q2 : (S x.1).1 = 45
            · rw [if_pos q2]
              refine kb_4_readExpression_62 (kf := fun z => absurd (n45.mpr q2) z) (kt := fun _ => ?_)
              refine kb_4_readExpression_73 (kf := fun z => absurd (n43.mp z) q1) (kt := fun _ => kb_4_readExpression_86 (k := ?_))
              refine kb_4_readExpression_88 (hC := sp_4_advance hA2.1 hA2.2.1 (by rw [q2]; decide)) (k := fun r ψ hr => ?_)
              obtain ⟨rfl, F3, hA3⟩ := hr
              refine kb_4_readExpression_93 (k := ?_)
              rw [nI_1]
              exact ih (t + 1) _ (-side) _ ψ (by omega) hA3 (fun j hj => by rw [F3.2.1 9]; exact hg2 j hj) ((F.tr F2).tr F3.1)
            · rw [if_neg q2]
              exact kb_4_readExpression_62 (kt := fun z => absurd (n45.mp z) q2) (kf := fun _ => kb_4_readExpression_71 ⟨F.tr F2, rfl, hA2, hg2⟩)
  refine am_enter rfl (by simp [Value.category]) (Nat.le_of_ble_eq_true rfl) (kb_4_readExpression_0 (k := ?_))
  exact loop 12 0 i side f σ rfl h hf am_On.rf
end READER
