/-! the class reads its lines -/
def fr_L (σ τ : am_St) : Prop := ∀ o, o ≠ 1 → o ≠ 2 → o ≠ 3 → am_Eo o σ τ
section CLINES
variable {d m i : Nat} {S : Nat → tk_T} {q : pa_Q} {σ : am_St}
theorem fr_L.rf : fr_L σ σ := fun _ _ _ _ => am_Eo.rf
theorem fr_L.tr {τ υ : am_St} (h : fr_L σ τ) (h' : fr_L τ υ) : fr_L σ υ := fun o a b c => (h o a b c).tr (h' o a b c)
theorem fr_1.L {is as : List Nat} {τ : am_St} (h : fr_1 is as σ τ) : fr_L σ τ := fun o a b _ => h.2.2 o a b
theorem am_On.L1 {τ : am_St} (h : am_On 1 σ τ) : fr_L σ τ := fun _ a _ _ => h.eo a
theorem am_On.L2 {τ : am_St} (h : am_On 2 σ τ) : fr_L σ τ := fun _ _ a _ => h.eo a
theorem am_On.L3 {τ : am_St} (h : am_On 3 σ τ) : fr_L σ τ := fun _ _ _ a => h.eo a
theorem rd_K.cg {τ : am_St} (h : rd_K σ S m i) (E2 : ∀ k, am_I τ 2 k = am_I σ 2 k) : rd_K τ S m i := by
  obtain ⟨k1, k2, k3, k4, k5, k6, k7⟩ := h
  exact ⟨k1, (E2 2).trans k2, (E2 3).trans k3, (E2 4).trans k4, (E2 5).trans k5, (E2 10).trans k6, (E2 11).trans k7⟩
theorem rd_T.o1 {τ : am_St} {nv : Nat} {nm : Nat → Nat} (h : rd_T σ S m nv nm) (F : am_On 1 σ τ) : rd_T τ S m nv nm := by
  obtain ⟨h1, h2, h3, h4, h5, h6⟩ := h
  exact ⟨h1, (F.1 3 0 (by decide)).trans h2, h3, h4, fun t ht => by rw [F.2.1 3 1 (by decide), F.2.1 3 2 (by decide), F.2.1 3 3 (by decide), F.2.1 3 4 (by decide)]; exact h5 t ht, h6⟩
abbrev rd_Aq (σ : am_St) (S : Nat → tk_T) (m : Nat) (q : pa_Q) (i : Nat) : Prop := rd_A σ S m (pP_nv (pQ_p q)) (pQ_nm q) i
abbrev rd_Q (S : Nat → tk_T) (m : Nat) (x : Nat × pa_Q) (τ : am_St) : Prop := rd_T τ S m (pP_nv (pQ_p x.2)) (pQ_nm x.2) ∧ rd_K τ S m x.1 ∧ cq_P τ x.2
theorem sp_2_addVariable {nv N : Nat} {lo hi : Int} (h0 : am_I σ 1 0 = nI nv) (hn : nv < 3) (h6 : am_I σ 1 6 = nI N) (hl : lo ≤ hi) : am_C false ya_2_addVariable d [.ref (am_oid 1), .int (iI lo), .int (iI hi)] σ (fun r τ => r = none ∧ am_On 1 σ τ ∧ fr_1 [0, 6] [8, 9] σ τ ∧ am_I τ 1 0 = nI (nv + 1) ∧ am_I τ 1 6 = nI (N * (hi - lo + 1).toNat) ∧ am_A τ 1 8 = upd (am_A σ 1 8) nv (iI lo) ∧ am_A τ 1 9 = upd (am_A σ 1 9) nv (iI hi)) := by
  have vi : vp_in (am_I σ 1 0) 3 := by rw [h0]; exact vp_in_nI hn (by decide)
  refine am_enter rfl (by simp [Value.category]) (Nat.le_of_ble_eq_true rfl) ?_
  refine kb_2_addVariable_0 (kt := fun z => absurd z (by rw [h0, show (3 : Int32) = nI 3 from rfl]; exact nI_ge hn (by omega))) (kf := fun _ => ?_)
  refine kb_2_addVariable_8 (hi0 := vi) (hi1 := vi) (k := kb_2_addVariable_52 ?_)
  have ew : (iI hi - iI lo) + 1 = nI (hi - lo + 1).toNat := by
    rw [iI_sub, show (1 : Int32) = iI 1 from by decide, iI_add, ← iI_n]
    congr 1; omega
  rw [h0, nI_clamp (show nv < 2 ^ 31 by omega), nI_1]
  have e6 : am_I σ 1 6 * ((iI hi - iI lo) + 1) = nI (N * (hi - lo + 1).toNat) := by rw [ew, h6, nI_mul]
  refine ⟨rfl, (((am_On.rf.sA _ _).sA _ _).sI _ _).sI _ _, (((fr_1.rf.sA (by rfl) _).sA (by rfl) _).sI (by rfl) _).sI (by rfl) _, by rw [am_I_sI, if_neg (by simp), am_I_sI, if_pos ⟨rfl, rfl⟩], by rw [am_I_sI, if_pos ⟨rfl, rfl⟩]; exact e6, ?_, ?_⟩
  · show am_A (am_sA (am_sA σ 1 8 _) 1 9 _) 1 8 = _
    rw [am_A_sA, if_neg (by simp), am_A_sA, if_pos ⟨rfl, rfl⟩]
  · show am_A (am_sA (am_sA σ 1 8 _) 1 9 _) 1 9 = _
    rw [am_A_sA, if_pos ⟨rfl, rfl⟩]
theorem rd_ref {X : Type} {ok : X → am_St → Prop} {f p : Nat} {τ : am_St} (h1 : am_I τ 2 10 = nI f) (h2 : am_I τ 2 11 = nI p) : rd_R (.inl (f, p)) ok (some (.int 0)) τ := ⟨rfl, h1, h2⟩
theorem sp_4_readVar (hR : rd_Aq σ S m q i) (hq : cq_P σ q) (hk : pq_ok q) (h0 : (S i).1 ≠ 0) : am_C false ya_4_readVar (d + 2) [.ref (am_oid 2)] σ (fun r τ => fr_L σ τ ∧ rd_R (pl_var S q i) (rd_Q S m) r τ) := by
  have pl : ∀ {τ : am_St} {k : Nat}, rd_Aq τ S m q k → am_I τ 2 4 = nI (S k).2.1 := fun h => h.2.1.2.2.2.1
  have i7 := hq.1.2.2.2.2.2.2
  refine am_enter rfl (by simp [Value.category]) (Nat.le_of_ble_eq_true rfl) ?_
  unfold pl_var
  cases eh : pQ_ho q with
  | true =>
    rw [if_pos rfl]
    refine kb_4_readVar_0 (kt := fun z => absurd z (by rw [i7, eh]; decide)) (kf := fun _ => ?_)
    refine kb_4_readVar_10 (hC := sp_4_refuse _ _) (k := fun r τ hr => ?_)
    obtain ⟨F, rfl, a, b⟩ := hr
    exact kb_4_readVar_19 (hb0 := rfl) (hq := ⟨F.L2, rd_ref a (b.trans (pl hR))⟩)
  | false =>
  rw [if_neg (by decide)]
  refine kb_4_readVar_0 (kf := fun z => absurd (by rw [i7, eh]; rfl) z) (kt := fun _ => ?_)
  by_cases c3 : 3 ≤ pP_nv (pQ_p q)
  · rw [if_pos c3]
    have := hk.1.1.1
    refine kb_4_readVar_20 (kt := fun z => absurd z (by rw [hq.1.1, show (3 : Int32) = nI 3 from rfl]; exact nI_nlt c3 (by omega))) (kf := fun _ => ?_)
    refine kb_4_readVar_31 (hC := sp_4_refuse _ _) (k := fun r τ hr => ?_)
    obtain ⟨F, rfl, a, b⟩ := hr
    exact kb_4_readVar_40 (hb0 := rfl) (hq := ⟨F.L2, rd_ref a (b.trans (pl hR))⟩)
  rw [if_neg c3]
  refine kb_4_readVar_20 (kf := fun z => absurd (by rw [hq.1.1, show (3 : Int32) = nI 3 from rfl]; exact nI_lt (by omega) (by omega)) z) (kt := fun _ => ?_)
  refine kb_4_readVar_41 (hC := sp_4_advance hR.1 hR.2.1 h0) (k := fun r τ1 hr => ?_)
  obtain ⟨rfl, F1, hR1⟩ := hr
  have k1 := hR1.k0 (x := 1) (by decide)
  have hb1 := hR1.1.2.2.2.1 (i + 1) hR1.2.1.1
  have bad : am_T false ya_4_readVar (d + 2) (fun r τ => fr_L σ τ ∧ rd_R (.inl (1, (S (i + 1)).2.1)) (rd_Q S m) r τ) 63 [some (.ref (am_oid 2)), none, none] [] τ1 := by
    refine kb_4_readVar_63 (hC := sp_4_refuse _ _) (k := fun r τ hr => ?_)
    obtain ⟨F, rfl, a, b⟩ := hr
    exact kb_4_readVar_72 (hb0 := rfl) (hq := ⟨(F1.1.tr F).L2, rd_ref a (b.trans (pl hR1))⟩)
  by_cases c4 : ¬ (S (i + 1)).1 = 1 ∨ pa_lg (S (i + 1)).2.2.2 = true
  · rw [if_pos c4]
    by_cases c5 : (S (i + 1)).1 = 1
    · refine kb_4_readVar_45 (kt := fun z => absurd (k1.mpr c5) z) (kf := fun _ => ?_)
      have c6 : pa_lg (S (i + 1)).2.2.2 = true := by
        rcases c4 with z | z
        · exact absurd c5 z
        · exact z
      refine kb_4_readVar_53 (hC := by rw [hR1.2.1.2.2.2.2.1]; exact sp_4_isOfLanguage hb1.2.2) (k := fun r υ hr => ?_)
      obtain ⟨rfl, rfl⟩ := hr
      rw [c6]
      exact kb_4_readVar_60 (kt := fun z => absurd z (by decide)) (kf := fun _ => bad)
    · exact kb_4_readVar_45 (kf := fun z => absurd (k1.mp z) c5) (kt := fun _ => bad)
  rw [if_neg c4]
  have c5 : (S (i + 1)).1 = 1 := Decidable.byContradiction (fun z => c4 (Or.inl z))
  have c6 : pa_lg (S (i + 1)).2.2.2 = false := by
    cases e : pa_lg (S (i + 1)).2.2.2 with
    | false => rfl
    | true => exact absurd (Or.inr e) c4
  refine kb_4_readVar_45 (kt := fun z => absurd (k1.mpr c5) z) (kf := fun _ => ?_)
  refine kb_4_readVar_53 (hC := by rw [hR1.2.1.2.2.2.2.1]; exact sp_4_isOfLanguage hb1.2.2) (k := fun r υ hr => ?_)
  obtain ⟨rfl, rfl⟩ := hr
  rw [c6]
  refine kb_4_readVar_60 (kf := fun z => absurd rfl z) (kt := fun _ => ?_)
  have hE := pa_oI_n hR1.vb
  cases ev : pa_v (pP_nv (pQ_p q)) (pQ_nm q) (S (i + 1)) with
  | some v =>
    rw [if_pos (show (some v).isSome = true from rfl)]
    refine kb_4_readVar_73 (kt := fun z => absurd (by rw [hR1.2.2, hE, ev] at z; exact z) (by simp)) (kf := fun _ => ?_)
    refine kb_4_readVar_80 (hC := sp_4_refuse _ _) (k := fun r τ hr => ?_)
    obtain ⟨F, rfl, a, b⟩ := hr
    exact kb_4_readVar_89 (hb0 := rfl) (hq := ⟨(F1.1.tr F).L2, rd_ref a (b.trans (pl hR1))⟩)
  | none =>
  rw [if_neg (by simp)]
  refine kb_4_readVar_73 (kf := fun z => absurd (by rw [hR1.2.2, hE]; exact ev) z) (kt := fun _ => ?_)
  refine kb_4_readVar_90 (hC := sp_4_advance hR1.1 hR1.2.1 (by omega)) (k := fun r τ2 hr => ?_)
  obtain ⟨rfl, F2, hR2⟩ := hr
  rw [hR1.2.1.2.2.2.2.1]
  refine kb_4_readVar_99 (hC := by rw [show ((-20 : Int32)) = iI (-20) from by decide]; exact sp_4_readSigned hR2 ⟨Int.le_refl _, by decide⟩) (k := fun r τ3 hr => ?_)
  obtain ⟨F3, hr⟩ := hr
  have F13 : am_On 2 σ τ3 := (F1.1.tr F2.1).tr F3
  cases ex : pa_sn S (-20) (i + 2) with
  | inl e =>
    rw [ex] at hr
    obtain ⟨rfl, a, b⟩ := hr
    exact kb_4_readVar_105 (kt := fun z => absurd rfl z) (kf := fun _ => kb_4_readVar_108 ⟨F13.L2, rfl, a, b⟩)
  | inr x =>
  rw [ex] at hr
  obtain ⟨rfl, hR3, e7, e8⟩ := hr
  obtain ⟨p1, p2, p3⟩ := pa_sn_gt ex
  refine kb_4_readVar_105 (kf := fun z => absurd z (by decide)) (kt := fun _ => ?_)
  refine kb_4_readVar_110 (hC := by rw [e7]; exact sp_4_readSigned hR3 ⟨p2, p3⟩) (k := fun r τ4 hr => ?_)
  obtain ⟨F4, hr⟩ := hr
  have F14 := F13.tr F4
  cases ey : pa_sn S x.2 x.1 with
  | inl e =>
    rw [ey] at hr
    obtain ⟨rfl, a, b⟩ := hr
    exact kb_4_readVar_120 (kt := fun z => absurd rfl z) (kf := fun _ => kb_4_readVar_123 ⟨F14.L2, by show rd_R (match pa_sn S x.2 x.1 with
      | .inl e => .inl e
      | .inr y => if 600 < pQ_N q * (y.2 - x.2 + 1).toNat then .inl (2, (S x.1).2.1) else .inr (y.1, pq_v q (S (i + 1)).2.2.2 x.2 y.2)) (rd_Q S m) _ _; rw [ey]; exact ⟨rfl, a, b⟩⟩)
  | inr y =>
  rw [ey] at hr
  obtain ⟨rfl, hR4, g7, g8⟩ := hr
  obtain ⟨p4, p5, p6⟩ := pa_sn_gt ey
  have hN := hk.1.1.2.2.2
  have hq4 := hq.on F14
  have ew : (iI y.2 - iI x.2) + 1 = nI (y.2 - x.2 + 1).toNat := by
    rw [iI_sub, show (1 : Int32) = iI 1 from by decide, iI_add, ← iI_n]
    congr 1; omega
  have eN : am_I τ4 1 6 * ((am_I τ4 2 7 - iI x.2) + 1) = nI (pQ_N q * (y.2 - x.2 + 1).toNat) := by rw [g7, ew, hq4.1.2.2.2.2.2.1, nI_mul]
  have w41 : (y.2 - x.2 + 1).toNat ≤ 41 := by omega
  have bd : pQ_N q * (y.2 - x.2 + 1).toNat ≤ 600 * 41 := Nat.mul_le_mul hN w41
  have e1 : (match pa_sn S x.2 x.1 with
      | .inl e => .inl e
      | .inr y => if 600 < pQ_N q * (y.2 - x.2 + 1).toNat then .inl (2, (S x.1).2.1) else .inr (y.1, pq_v q (S (i + 1)).2.2.2 x.2 y.2) : pa_F ⊕ (Nat × pa_Q)) = if 600 < pQ_N q * (y.2 - x.2 + 1).toNat then .inl (2, (S x.1).2.1) else .inr (y.1, pq_v q (S (i + 1)).2.2.2 x.2 y.2) := by rw [ey]
  show am_T false ya_4_readVar (d + 2) (fun r τ => fr_L σ τ ∧ rd_R (match pa_sn S x.2 x.1 with
      | .inl e => .inl e
      | .inr y => if 600 < pQ_N q * (y.2 - x.2 + 1).toNat then .inl (2, (S x.1).2.1) else .inr (y.1, pq_v q (S (i + 1)).2.2.2 x.2 y.2)) (rd_Q S m) r τ) _ _ _ _
  rw [e1, e7]
  refine kb_4_readVar_120 (kf := fun z => absurd z (by decide)) (kt := fun _ => ?_)
  by_cases c7 : 600 < pQ_N q * (y.2 - x.2 + 1).toNat
  · rw [if_pos c7]
    refine kb_4_readVar_125 (kt := fun z => absurd z (by rw [eN, show (600 : Int32) = nI 600 from rfl]; exact nI_ge c7 (by omega))) (kf := fun _ => ?_)
    refine kb_4_readVar_147 (hC := sp_4_refuse _ _) (k := fun r τ hr => ?_)
    obtain ⟨F, rfl, a, b⟩ := hr
    exact kb_4_readVar_156 (hb0 := rfl) (hq := ⟨(F14.tr F).L2, rd_ref a (b.trans g8)⟩)
  · rw [if_neg c7]
    refine kb_4_readVar_125 (kf := fun z => absurd (by rw [eN, show (600 : Int32) = nI 600 from rfl]; exact nI_le (by omega) (by omega)) z) (kt := fun _ => ?_)
    have hx0 : pa_ix (pQ_nm q) (S (i + 1)).2.2.2 (pP_nv (pQ_p q)) = none := by
      unfold pa_v at ev
      rw [if_pos c5] at ev
      exact ev
    refine kb_4_readVar_157 (hC := by rw [hq4.1.1]; exact sp_7_nameVariable hR4.1 (by omega) hb1.2.2 hx0) (k := fun r τ5 hr => ?_)
    obtain ⟨rfl, F5, hT5⟩ := hr
    have hq5 : cq_P τ5 q := hq4.cg (fun k => F5.1 1 k (by decide)) (fun k => F5.2.1 1 k (by decide))
    have e75 : am_I τ5 2 7 = iI y.2 := (F5.1 2 7 (by decide)).trans g7
    refine kb_4_readVar_172 (hC := by rw [e75]; exact sp_2_addVariable hq5.1.1 (by omega) hq5.1.2.2.2.2.2.1 p5) (k := fun r τ6 hr => ?_)
    obtain ⟨rfl, F6, F6', j0, j6, j8, j9⟩ := hr
    refine kb_4_readVar_184 ⟨((F14.L2).tr F5.L3).tr F6.L1, rfl, hT5.o1 F6, (hR4.2.1.cg (fun k => F5.1 2 k (by decide))).cg (fun k => F6.1 2 k (by decide)), ?_⟩
    obtain ⟨⟨b0, b1, b2, b3, b4, b6, b7⟩, b8, b9, b10, b11⟩ := hq5
    refine ⟨⟨j0, (F6'.1 1 rfl).trans b1, (F6'.1 2 rfl).trans b2, (F6'.1 3 rfl).trans b3, (F6'.1 4 rfl).trans b4, j6, (F6'.1 7 rfl).trans b7⟩, b8.cg (F6'.1 5 rfl) (F6'.2.1 10 rfl) (F6'.2.1 11 rfl), fun v hv => ?_, by rw [F6'.2.1 12 rfl, F6'.2.1 13 rfl]; exact b10, by rw [F6'.2.1 14 rfl, F6'.2.1 15 rfl]; exact b11⟩
    have hv' : v < pP_nv (pQ_p q) + 1 := hv
    rw [j8, j9]
    show upd (am_A τ5 1 8) (pP_nv (pQ_p q)) (iI x.2) v = iI (up1 (pP_lo (pQ_p q)) (pP_nv (pQ_p q)) x.2 v) ∧ upd (am_A τ5 1 9) (pP_nv (pQ_p q)) (iI y.2) v = iI (up1 (pP_lo (pQ_p q)) (pP_nv (pQ_p q)) x.2 v + ((up1 (pP_wd (pQ_p q)) (pP_nv (pQ_p q)) (y.2 - x.2 + 1).toNat v : Nat) : Int) - 1)
    unfold up1
    by_cases e : v = pP_nv (pQ_p q)
    · rw [if_pos e, if_pos e, e, upd_s, upd_s]
      refine ⟨rfl, ?_⟩
      congr 1; omega
    · rw [if_neg e, if_neg e, upd_n e, upd_n e]; exact b9 v (by omega)
theorem sp_4_readSet (hR : rd_Aq σ S m q i) (hq : cq_P σ q) (hk : pq_ok q) (h0 : (S i).1 ≠ 0) : am_C false ya_4_readSet (d + 3) [.ref (am_oid 2)] σ (fun r τ => fr_L σ τ ∧ rd_R (pl_set S q i) (rd_Q S m) r τ) := by
  have pl : ∀ {τ : am_St} {k : Nat}, rd_Aq τ S m q k → am_I τ 2 4 = nI (S k).2.1 := fun h => h.2.1.2.2.2.1
  have i3 := hq.1.2.2.2.1
  have hK8 := hk.1.2.2.2.1
  refine am_enter rfl (by simp [Value.category]) (Nat.le_of_ble_eq_true rfl) ?_
  unfold pl_set
  by_cases c1 : pP_K (pQ_p q) = 0
  · rw [if_pos c1]
    refine kb_4_readSet_0 (kt := fun z => absurd (by rw [i3, c1]; rfl) z) (kf := fun _ => ?_)
    refine kb_4_readSet_10 (hC := sp_4_refuse _ _) (k := fun r τ hr => ?_)
    obtain ⟨F, rfl, a, b⟩ := hr
    exact kb_4_readSet_19 (hb0 := rfl) (hq := ⟨F.L2, rd_ref a (b.trans (pl hR))⟩)
  rw [if_neg c1]
  refine kb_4_readSet_0 (kf := fun z => absurd z (by rw [i3]; exact nI_ne0 (by omega) (by omega))) (kt := fun _ => ?_)
  refine kb_4_readSet_20 (hC := sp_4_advance hR.1 hR.2.1 h0) (k := fun r τ1 hr => ?_)
  obtain ⟨rfl, F1, hR1⟩ := hr
  have hE := pa_oI_p hR1.vb
  cases ev : pa_v (pP_nv (pQ_p q)) (pQ_nm q) (S (i + 1)) with
  | none =>
    refine kb_4_readSet_24 (kt := fun z => absurd ev (by rw [hR1.2.2, hE] at z; exact z)) (kf := fun _ => ?_)
    refine kb_4_readSet_33 (hC := sp_4_refuse _ _) (k := fun r τ hr => ?_)
    obtain ⟨F, rfl, a, b⟩ := hr
    exact kb_4_readSet_42 (hb0 := rfl) (hq := ⟨(F1.1.tr F).L2, rd_ref a (b.trans (pl hR1))⟩)
  | some v =>
  obtain ⟨v1, v2, v3⟩ := pa_v_lt ev
  have hn3 := hk.1.1.1
  obtain ⟨x, hx⟩ : ∃ x, x = 3 * (pP_K (pQ_p q) - 1) + v := ⟨_, rfl⟩
  show am_T false ya_4_readSet (d + 3) (fun r τ => fr_L σ τ ∧ rd_R (if pP_g (pQ_p q) (3 * (pP_K (pQ_p q) - 1) + v) = true then .inl (3, (S (i + 1)).2.1)
      else if ¬ (S (i + 2)).1 = 61 then .inl (1, (S (i + 2)).2.1)
      else match pa_sm S (pP_nv (pQ_p q)) (pQ_nm q) 1 12 (i + 3) 1 (fun _ => 0) with
        | .inl e => .inl e
        | .inr y => .inr (y.1, pq_s q (3 * (pP_K (pQ_p q) - 1) + v) y.2)) (rd_Q S m) r τ) _ _ _ _
  rw [← hx]
  have hx24 : x < 24 := by omega
  have hq1 := hq.on F1.1
  have ex1 : ((am_I τ1 1 3 - 1) * 3) + am_I τ1 2 6 = nI x := by
    rw [hq1.1.2.2.2.1, show pP_K (pQ_p q) = (pP_K (pQ_p q) - 1) + 1 by omega, nI_pred, hR1.2.2, ev, show (3 : Int32) = nI 3 from rfl, nI_mul, hx]
    show nI _ + nI v = _
    rw [nI_add]
    congr 1; omega
  refine kb_4_readSet_24 (kf := fun z => absurd (by rw [hR1.2.2, hE, ev]; simp) z) (kt := fun _ => ?_)
  have vi : vp_in (((am_I τ1 1 3 - 1) * 3) + am_I τ1 2 6) 24 := by rw [ex1]; exact vp_in_nI hx24 (by decide)
  have eg : am_A τ1 1 15 (((am_I τ1 1 3 - 1) * 3) + am_I τ1 2 6).toNatClampNeg = am_bI (pP_g (pQ_p q) x) := by rw [ex1, nI_clamp (show x < 2 ^ 31 by omega)]; exact (hq1.2.2.2.2 x hx24).1
  show am_T false ya_4_readSet (d + 3) (fun r τ => fr_L σ τ ∧ rd_R (if pP_g (pQ_p q) x = true then .inl (3, (S (i + 1)).2.1)
      else if ¬ (S (i + 2)).1 = 61 then .inl (1, (S (i + 2)).2.1)
      else match pa_sm S (pP_nv (pQ_p q)) (pQ_nm q) 1 12 (i + 3) 1 (fun _ => 0) with
        | .inl e => .inl e
        | .inr y => .inr (y.1, pq_s q x y.2)) (rd_Q S m) r τ) _ _ _ _
  cases cg : pP_g (pQ_p q) x with
  | true =>
    rw [if_pos rfl]
    refine kb_4_readSet_43 (hi0 := vi) (kt := fun z => absurd z (by rw [eg, cg]; decide)) (kf := fun _ => ?_)
    refine kb_4_readSet_69 (hC := sp_4_refuse _ _) (k := fun r τ hr => ?_)
    obtain ⟨F, rfl, a, b⟩ := hr
    exact kb_4_readSet_78 (hb0 := rfl) (hq := ⟨(F1.1.tr F).L2, rd_ref a (b.trans (pl hR1))⟩)
  | false =>
  rw [if_neg (by decide)]
  refine kb_4_readSet_43 (hi0 := vi) (kf := fun z => absurd (by rw [eg, cg]; rfl) z) (kt := fun _ => ?_)
  rw [ex1]
  refine kb_4_readSet_79 (hC := sp_4_advance hR1.1 hR1.2.1 (by omega)) (k := fun r τ2 hr => ?_)
  obtain ⟨rfl, F2, hR2⟩ := hr
  have F12 := F1.1.tr F2.1
  refine kb_4_readSet_83 (hC := sp_4_expect (c := 61) hR2.1 hR2.2.1 (by decide) (by decide)) (k := fun r τ3 hr => ?_)
  obtain ⟨F3, hr⟩ := hr
  have F13 := F12.tr F3
  by_cases c2 : (S (i + 2)).1 = 61
  · have c2' : (S (i + 1 + 1)).1 = 61 := c2
    rw [if_pos c2'] at hr
    obtain ⟨rfl, -, hR3⟩ := hr
    rw [if_neg (fun z => z c2)]
    refine kb_4_readSet_89 (kf := fun z => absurd z (by decide)) (kt := fun _ => ?_)
    refine kb_4_readSet_94 (hC := sp_fill false (d + 2) 2 9 4 4 0 τ3 rfl (by decide) rfl (by decide)) (k := fun r τ4 hr => ?_)
    obtain ⟨rfl, h4⟩ := hr
    have F4 : am_On 2 τ3 τ4 := by rw [h4]; exact am_On.rf.sA _ _
    have hR4 : rd_Aq τ4 S m q (i + 3) := by rw [h4]; exact hR3.sA
    have hf4 : rd_f (fun _ => 0) τ4 := fun j hj => by
      rw [h4, am_A_sA, if_pos ⟨rfl, rfl⟩]
      unfold am_fill
      rw [if_pos hj]
    refine kb_4_readSet_102 (hC := sp_4_readExpression 1 hR4 hf4) (k := fun r τ5 hr => ?_)
    obtain ⟨F5, hr⟩ := hr
    have F15 := (F13.tr F4).tr F5
    cases ex : pa_sm S (pP_nv (pQ_p q)) (pQ_nm q) 1 12 (i + 3) 1 (fun _ => 0) with
    | inl e =>
      rw [ex] at hr
      obtain ⟨rfl, a, b⟩ := hr
      exact kb_4_readSet_107 (kt := fun z => absurd rfl z) (kf := fun _ => kb_4_readSet_110 ⟨F15.L2, rfl, a, b⟩)
    | inr y =>
      rw [ex] at hr
      obtain ⟨rfl, hR5, hf5⟩ := hr
      refine kb_4_readSet_107 (kf := fun z => absurd z (by decide)) (kt := fun _ => ?_)
      refine kb_4_readSet_112 (hC := sp_2_addSet hx24 hf5) (k := fun r τ6 hr => ?_)
      obtain ⟨rfl, F6, F6', g15, g14, g14'⟩ := hr
      have hR6 := hR5.o1 F6
      refine kb_4_readSet_124 ⟨F15.L2.tr F6.L1, rfl, hR6.1, hR6.2.1, ?_⟩
      obtain ⟨⟨b0, b1, b2, b3, b4, b6, b7⟩, b8, b9, b10, b11⟩ := hq.on F15
      refine ⟨⟨(F6'.1 0 rfl).trans b0, (F6'.1 1 rfl).trans b1, (F6'.1 2 rfl).trans b2, (F6'.1 3 rfl).trans b3, (F6'.1 4 rfl).trans b4, (F6'.1 6 rfl).trans b6, (F6'.1 7 rfl).trans b7⟩, b8.cg (F6'.1 5 rfl) (F6'.2.1 10 rfl) (F6'.2.1 11 rfl), by rw [F6'.2.1 8 rfl, F6'.2.1 9 rfl]; exact b9, by rw [F6'.2.1 12 rfl, F6'.2.1 13 rfl]; exact b10, fun z hz => ?_⟩
      show am_A τ6 1 15 z = am_bI (up1 (pP_g (pQ_p q)) x true z) ∧ (up1 (pP_g (pQ_p q)) x true z = true → ∀ j, j < 4 → am_A τ6 1 14 (4 * z + j) = up1 (pP_sf (pQ_p q)) x y.2 z j)
      rw [g15]
      unfold up1
      by_cases e : z = x
      · rw [if_pos e, if_pos e, e, upd_s]
        exact ⟨rfl, fun _ j hj => g14 j hj⟩
      · rw [if_neg e, if_neg e, upd_n e]
        refine ⟨(b11 z hz).1, fun w j hj => ?_⟩
        rw [g14' z e j hj]
        exact (b11 z hz).2 w j hj
  · have c2' : ¬ (S (i + 1 + 1)).1 = 61 := c2
    rw [if_neg c2'] at hr
    obtain ⟨rfl, a, b⟩ := hr
    rw [if_pos c2]
    exact kb_4_readSet_89 (kt := fun z => absurd rfl z) (kf := fun _ => kb_4_readSet_92 ⟨F13.L2, rfl, a, b⟩)
end CLINES
