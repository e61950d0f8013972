/-! the class reads a line, a text -/
section CREAD
variable {d m i : Nat} {S : Nat → tk_T} {q : pa_Q} {σ : am_St}
/-- a condition was read into the slot c -/
theorem rl_con {τ υ : am_St} {j c ns nb K T : Nat} {r : Option Value} (hq : cq_P σ q) (F : fr_1 [1, 2, 3, 4, 7] [] σ τ) (h1 : am_I τ 1 1 = nI ns) (h2 : am_I τ 1 2 = nI nb) (h3 : am_I τ 1 3 = nI K) (h4 : am_I τ 1 4 = nI T) (h7 : am_I τ 1 7 = 1) (G : fr_1 [5] [10, 11, 12, 13] τ υ)
    (hr : rd_R (pa_cd S (pP_nv (pQ_p q)) (pQ_nm q) 8 j (pQ_A q)) (fun x υ => rd_A υ S m (pP_nv (pQ_p q)) (pQ_nm q) x.1 ∧ cq_At υ x.2 ∧ am_A υ 1 12 = upd (am_A τ 1 12) c (nI (pQ_na q)) ∧ am_A υ 1 13 = upd (am_A τ 1 13) c (nI x.2.1)) r υ) : rd_R (pl_con S q j c ns nb K T) (rd_Q S m) r υ := by
  unfold pl_con
  cases ex : pa_cd S (pP_nv (pQ_p q)) (pQ_nm q) 8 j (pQ_A q) with
  | inl e => rw [ex] at hr; exact hr
  | inr x =>
    rw [ex] at hr
    obtain ⟨rfl, hR, hA, e12, e13⟩ := hr
    obtain ⟨g1, g2, g3, g4⟩ := pa_cd_gt 8 ex pa_le.rf
    obtain ⟨⟨b0, b1, b2, b3, b4, b6, b7⟩, b8, b9, b10, b11⟩ := hq
    refine ⟨rfl, hR.1, hR.2.1, ⟨((G.1 0 rfl).trans (F.1 0 rfl)).trans b0, (G.1 1 rfl).trans h1, (G.1 2 rfl).trans h2, (G.1 3 rfl).trans h3, (G.1 4 rfl).trans h4, ((G.1 6 rfl).trans (F.1 6 rfl)).trans b6, (G.1 7 rfl).trans h7⟩, hA, by rw [G.2.1 8 rfl, G.2.1 9 rfl, F.2.1 8 rfl, F.2.1 9 rfl]; exact b9, fun c' hc' => ?_, by rw [G.2.1 14 rfl, G.2.1 15 rfl, F.2.1 14 rfl, F.2.1 15 rfl]; exact b11⟩
    have g3' : pQ_na q < x.2.1 := g3
    rw [e12, e13, F.2.1 12 rfl, F.2.1 13 rfl]
    show upd (am_A σ 1 12) c (nI (pQ_na q)) c' = nI (up1 (pP_cf (pQ_p q)) c (pQ_na q) c') ∧ upd (am_A σ 1 13) c (nI x.2.1) c' = nI (up1 (pP_cf (pQ_p q)) c (pQ_na q) c' + up1 (pP_cn (pQ_p q)) c (x.2.1 - pQ_na q) c')
    unfold up1
    by_cases e : c' = c
    · rw [if_pos e, if_pos e, e, upd_s, upd_s]
      refine ⟨rfl, ?_⟩
      congr 1; omega
    · rw [if_neg e, if_neg e, upd_n e, upd_n e]; exact b10 c' hc'
theorem sp_4_readLine (hR : rd_Aq σ S m q i) (hq : cq_P σ q) (hk : pq_ok q) : am_C false ya_4_readLine (d + 5) [.ref (am_oid 2)] σ (fun r τ => fr_L σ τ ∧ rd_R (pl_line S q i) (rd_Q S m) r τ) := by
  have hb := hR.1.2.2.2.1 i hR.2.1.1
  have k1 := hR.k0 (x := 1) (by decide)
  have hna := hk.2.1
  have hk' := hk
  obtain ⟨⟨c1, n1, n2, n3, n4⟩, -⟩ := hk'
  refine am_enter rfl (by simp [Value.category]) (Nat.le_of_ble_eq_true rfl) ?_
  have dflt : ∀ a1 : Option Value, pl_line S q i = .inl (1, (S i).2.1) → am_T false ya_4_readLine (d + 5) (fun r τ => fr_L σ τ ∧ rd_R (pl_line S q i) (rd_Q S m) r τ) 290 [some (.ref (am_oid 2)), a1] [] σ := fun a1 e => by
    rw [e]
    refine kb_4_readLine_290 (hC := sp_4_refuse _ _) (k := fun r τ hr => ?_)
    obtain ⟨F, rfl, a, b⟩ := hr
    exact kb_4_readLine_299 (hb0 := rfl) (hq := ⟨F.L2, rd_ref a (b.trans hR.2.1.2.2.2.1)⟩)
  by_cases ck : (S i).1 = 1
  · have h0 : (S i).1 ≠ 0 := by omega
    refine kb_4_readLine_0 (kt := fun z => absurd (k1.mpr ck) z) (kf := fun _ => kb_4_readLine_8 (k := ?_))
    rw [hR.2.1.2.2.2.2.1]
    have inj : ∀ w, w < 387420489 → nI (S i).2.2.2 = nI w → (S i).2.2.2 = w := fun w hw z => nI_inj (by omega) (by omega) z
    have pw : ∀ w, pa_w w (S i) = decide ((S i).2.2.2 = w) := fun w => by unfold pa_w; simp [ck]
    have opn : ∀ {a b : Nat} {r : Option Value} {τ : am_St}, (fr_1 [7] [] σ τ ∧ rd_R (if b ≤ a then .inl (2, (S i).2.1) else .inr (i + 1)) (fun j τ => rd_A τ S m (pP_nv (pQ_p q)) (pQ_nm q) j ∧ am_I τ 1 7 = 1) r τ) → (b ≤ a ∧ r = some (.int 0) ∧ fr_L σ τ ∧ ∀ X : Type, ∀ ok : X → am_St → Prop, rd_R (.inl (2, (S i).2.1)) ok (some (.int 0)) τ) ∨ (¬ b ≤ a ∧ r = some (.int 1) ∧ fr_1 [7] [] σ τ ∧ rd_Aq τ S m q (i + 1) ∧ am_I τ 1 7 = 1 ∧ cq_At τ (pQ_A q)) := fun {a b r τ} h => by
      obtain ⟨F, hr⟩ := h
      by_cases z : b ≤ a
      · rw [if_pos z] at hr
        obtain ⟨rfl, p1, p2⟩ := hr
        exact Or.inl ⟨z, rfl, F.L, fun X ok => ⟨rfl, p1, p2⟩⟩
      · rw [if_neg z] at hr
        obtain ⟨rfl, p1, p2⟩ := hr
        exact Or.inr ⟨z, rfl, F, p1, p2, hq.2.1.cg (F.1 5 rfl) (F.2.1 10 rfl) (F.2.1 11 rfl)⟩
    have i1 := hq.1.2.1
    have i2 := hq.1.2.2.1
    have i3 := hq.1.2.2.2.1
    have i4 := hq.1.2.2.2.2.1
    refine kb_4_readLine_16 (k0 := fun z => ?_) (k1 := fun z => ?_) (k2 := fun z => ?_) (k3 := fun z => ?_) (k4 := fun z => ?_) (k5 := fun z => ?_) (kd := fun z => ?_)
    · have e : pl_line S q i = pl_bad S q i := by unfold pl_line; rw [pw, pw, pw, inj 1489 (by decide) z]; rfl
      rw [e]
      refine kb_4_readLine_125 (hC := by rw [i2]; exact sp_4_openLine (b := 4) hR h0 (by omega) (by decide)) (k := fun r τ hr => ?_)
      unfold pl_bad
      rcases opn hr with ⟨z, rfl, F, ok⟩ | ⟨z, rfl, F, hR1, h7, hA1⟩
      · rw [if_pos z]
        exact kb_4_readLine_137 (kt := fun z => absurd rfl z) (kf := fun _ => kb_4_readLine_140 ⟨F, ok _ _⟩)
      · rw [if_neg z]
        refine kb_4_readLine_137 (kf := fun z => absurd z (by decide)) (kt := fun _ => ?_)
        have j2 : am_I τ 1 2 = nI (pP_nb (pQ_p q)) := (F.1 2 rfl).trans i2
        have O1 : am_On 1 τ (am_sI τ 1 2 (nI (pP_nb (pQ_p q) + 1))) := am_On.rf.sI _ _
        have F' : fr_1 [1, 2, 3, 4, 7] [] σ (am_sI τ 1 2 (nI (pP_nb (pQ_p q) + 1))) := (F.wid rfl rfl).sI (by rfl) _
        have ea : (4 : Int32) + nI (pP_nb (pQ_p q) + 1) - 1 = nI (4 + pP_nb (pQ_p q)) := by rw [show (4 : Int32) = nI 4 from rfl, nI_add, ← Nat.add_assoc, nI_pred]
        refine kb_4_readLine_142 (hC := by rw [j2, nI_1, ea]; exact sp_4_readCondition (hR1.o1 O1) (hA1.cg (by rw [am_I_sI, if_neg (by simp)]) rfl rfl) (by show pQ_na q + 8 ≤ 144; omega) (by omega)) (k := fun r υ hr => ?_)
        obtain ⟨G, hr⟩ := hr
        have hrr : r = some (.int 0) ∨ r = some (.int 1) := by
          unfold rd_R at hr
          split at hr
          · exact Or.inl hr.1
          · exact Or.inr hr.1
        have fin := rl_con (ns := pP_ns (pQ_p q)) (nb := pP_nb (pQ_p q) + 1) (K := pP_K (pQ_p q)) (T := pP_T (pQ_p q)) hq F' (by rw [am_I_sI, if_neg (by simp)]; exact (F.1 1 rfl).trans i1) (by rw [am_I_sI, if_pos ⟨rfl, rfl⟩]) (by rw [am_I_sI, if_neg (by simp)]; exact (F.1 3 rfl).trans i3) (by rw [am_I_sI, if_neg (by simp)]; exact (F.1 4 rfl).trans i4) (by rw [am_I_sI, if_neg (by simp)]; exact h7) G hr
        rcases hrr with rfl | rfl
        · exact kb_4_readLine_170 (hb0 := rfl) (hq := ⟨F'.L.tr G.L, fin⟩)
        · exact kb_4_readLine_170 (hb0 := rfl) (hq := ⟨F'.L.tr G.L, fin⟩)
    · have e : pl_line S q i = pl_set S q i := by unfold pl_line; rw [pw, pw, pw, pw, pw, inj 14006 (by decide) z]; rfl
      rw [e]
      refine kb_4_readLine_237 (hC := sp_4_readSet hR hq hk h0) (k := fun r τ hr => ?_)
      have hrr : r = some (.int 0) ∨ r = some (.int 1) := by
        have := hr.2
        unfold rd_R at this
        split at this
        · exact Or.inl this.1
        · exact Or.inr this.1
      rcases hrr with rfl | rfl
      · exact kb_4_readLine_241 (hb0 := rfl) (hq := hr)
      · exact kb_4_readLine_241 (hb0 := rfl) (hq := hr)
    · have e : pl_line S q i = pl_var S q i := by unfold pl_line; rw [pw, inj 16083 (by decide) z]; rfl
      rw [e]
      refine kb_4_readLine_76 (hC := sp_4_readVar hR hq hk h0) (k := fun r τ hr => ?_)
      have hrr : r = some (.int 0) ∨ r = some (.int 1) := by
        have := hr.2
        unfold rd_R at this
        split at this
        · exact Or.inl this.1
        · exact Or.inr this.1
      rcases hrr with rfl | rfl
      · exact kb_4_readLine_80 (hb0 := rfl) (hq := hr)
      · exact kb_4_readLine_80 (hb0 := rfl) (hq := hr)
    · have e : pl_line S q i = pl_step S q i := by unfold pl_line; rw [pw, pw, pw, pw, inj 388708 (by decide) z]; rfl
      rw [e]
      refine kb_4_readLine_171 (hC := by rw [i3]; exact sp_4_openLine (b := 8) hR h0 (by omega) (by decide)) (k := fun r τ hr => ?_)
      unfold pl_step
      rcases opn hr with ⟨z, rfl, F, ok⟩ | ⟨z, rfl, F, hR1, h7, hA1⟩
      · rw [if_pos z]
        exact kb_4_readLine_184 (kt := fun z => absurd rfl z) (kf := fun _ => kb_4_readLine_187 ⟨F, ok _ _⟩)
      · rw [if_neg z]
        refine kb_4_readLine_184 (kf := fun z => absurd z (by decide)) (kt := fun _ => ?_)
        have j3 : am_I τ 1 3 = nI (pP_K (pQ_p q)) := (F.1 3 rfl).trans i3
        have O1 : am_On 1 τ (am_sI τ 1 3 (nI (pP_K (pQ_p q) + 1))) := am_On.rf.sI _ _
        have F' : fr_1 [1, 2, 3, 4, 7] [] σ (am_sI τ 1 3 (nI (pP_K (pQ_p q) + 1))) := (F.wid rfl rfl).sI (by rfl) _
        have hR1' := hR1.o1 O1
        refine kb_4_readLine_189 (hC := by rw [j3, nI_1]; exact sp_4_takeWord (w := 249) hR1'.1 hR1'.2.1 (by decide)) (k := fun r υ hr => ?_)
        obtain ⟨rfl, w1, w2⟩ := hr
        cases hw : pa_w 249 (S (i + 1)) with
        | false =>
          have := w1 hw
          subst this
          rw [if_neg (by decide)]
          refine kb_4_readLine_209 (kf := fun z => absurd rfl z) (kt := fun _ => kb_4_readLine_231 (k := kb_4_readLine_236 (hb0 := rfl) (hq := ⟨F'.L, rfl, hR1'.1, hR1'.2.1, ?_⟩)))
          obtain ⟨⟨b0, b1, b2, b3, b4, b6, b7⟩, b8, b9, b10, b11⟩ := hq
          exact ⟨⟨(F'.1 0 rfl).trans b0, by rw [am_I_sI, if_neg (by simp)]; exact (F.1 1 rfl).trans b1, by rw [am_I_sI, if_neg (by simp)]; exact (F.1 2 rfl).trans b2, by rw [am_I_sI, if_pos ⟨rfl, rfl⟩]; rfl, by rw [am_I_sI, if_neg (by simp)]; exact (F.1 4 rfl).trans b4, (F'.1 6 rfl).trans b6, by rw [am_I_sI, if_neg (by simp)]; exact h7⟩, b8.cg (F'.1 5 rfl) (F'.2.1 10 rfl) (F'.2.1 11 rfl), by rw [F'.2.1 8 rfl, F'.2.1 9 rfl]; exact b9, by rw [F'.2.1 12 rfl, F'.2.1 13 rfl]; exact b10, by rw [F'.2.1 14 rfl, F'.2.1 15 rfl]; exact b11⟩
        | true =>
          obtain ⟨F2, hR2⟩ := w2 hw
          rw [if_pos rfl]
          refine kb_4_readLine_209 (kt := fun z => absurd z (by decide)) (kf := fun _ => ?_)
          have F2' : fr_1 [1, 2, 3, 4, 7] [] σ υ := F'.tr F2.1.f1
          have j3' : am_I υ 1 3 = nI (pP_K (pQ_p q) + 1) := (F2.1.1 1 3 (by decide)).trans (by rw [am_I_sI, if_pos ⟨rfl, rfl⟩])
          have ea : (8 : Int32) + nI (pP_K (pQ_p q) + 1) - 1 = nI (8 + pP_K (pQ_p q)) := by rw [show (8 : Int32) = nI 8 from rfl, nI_add, ← Nat.add_assoc, nI_pred]
          have gI : ∀ k, k ≠ 3 → k ≠ 7 → am_I υ 1 k = am_I σ 1 k := fun k hk hk7 => (F2.1.1 1 k (by decide)).trans (by rw [am_I_sI, if_neg (fun z => hk z.1)]; exact F.1 k (by simp [hk7]))
          refine kb_4_readLine_212 (hC := by rw [j3', ea]; exact sp_4_readCondition hR2 (hq.2.1.cg (gI 5 (by decide) (by decide)) (F2'.2.1 10 rfl) (F2'.2.1 11 rfl)) (by show pQ_na q + 8 ≤ 144; omega) (by omega)) (k := fun r ω hr => ?_)
          obtain ⟨G, hr⟩ := hr
          have hrr : r = some (.int 0) ∨ r = some (.int 1) := by
            unfold rd_R at hr
            split at hr
            · exact Or.inl hr.1
            · exact Or.inr hr.1
          have fin := rl_con (ns := pP_ns (pQ_p q)) (nb := pP_nb (pQ_p q)) (K := pP_K (pQ_p q) + 1) (T := pP_T (pQ_p q)) hq F2' ((gI 1 (by decide) (by decide)).trans i1) ((gI 2 (by decide) (by decide)).trans i2) j3' ((gI 4 (by decide) (by decide)).trans i4) ((F2.1.1 1 7 (by decide)).trans (by rw [am_I_sI, if_neg (by simp)]; exact h7)) G hr
          rcases hrr with rfl | rfl
          · exact kb_4_readLine_228 (kf := fun z => absurd rfl z) (kt := fun _ => kb_4_readLine_235 (k := kb_4_readLine_236 (hb0 := rfl) (hq := ⟨F2'.L.tr G.L, fin⟩)))
          · exact kb_4_readLine_228 (kt := fun z => absurd z (by decide)) (kf := fun _ => kb_4_readLine_231 (k := kb_4_readLine_236 (hb0 := rfl) (hq := ⟨F2'.L.tr G.L, fin⟩)))
    · have e : pl_line S q i = pl_test S q i := by unfold pl_line; rw [pw, pw, pw, pw, pw, pw, inj 397838 (by decide) z]; rfl
      rw [e]
      refine kb_4_readLine_242 (hC := by rw [i4]; exact sp_4_openLine (b := 16) hR h0 (by omega) (by decide)) (k := fun r τ hr => ?_)
      unfold pl_test
      rcases opn hr with ⟨z, rfl, F, ok⟩ | ⟨z, rfl, F, hR1, h7, hA1⟩
      · rw [if_pos z]
        exact kb_4_readLine_255 (kt := fun z => absurd rfl z) (kf := fun _ => kb_4_readLine_258 ⟨F, ok _ _⟩)
      · rw [if_neg z]
        refine kb_4_readLine_255 (kf := fun z => absurd z (by decide)) (kt := fun _ => ?_)
        have j4 : am_I τ 1 4 = nI (pP_T (pQ_p q)) := (F.1 4 rfl).trans i4
        have O1 : am_On 1 τ (am_sI τ 1 4 (nI (pP_T (pQ_p q) + 1))) := am_On.rf.sI _ _
        have F' : fr_1 [1, 2, 3, 4, 7] [] σ (am_sI τ 1 4 (nI (pP_T (pQ_p q) + 1))) := (F.wid rfl rfl).sI (by rfl) _
        have ea : (16 : Int32) + nI (pP_T (pQ_p q) + 1) - 1 = nI (16 + pP_T (pQ_p q)) := by rw [show (16 : Int32) = nI 16 from rfl, nI_add, ← Nat.add_assoc, nI_pred]
        refine kb_4_readLine_260 (hC := by rw [j4, nI_1, ea]; exact sp_4_readTest (A := pQ_A q) (hR1.o1 O1) (hA1.cg (by rw [am_I_sI, if_neg (by simp)]) rfl rfl) (by show pQ_na q < 144; omega) (by omega)) (k := fun r υ hr => ?_)
        obtain ⟨G, hr⟩ := hr
        cases ex : pa_am S (pP_nv (pQ_p q)) (pQ_nm q) (i + 1) with
        | inl e' =>
          rw [ex] at hr
          obtain ⟨rfl, a, b⟩ := hr
          exact kb_4_readLine_289 (hb0 := rfl) (hq := ⟨F'.L.tr G.L, rfl, a, b⟩)
        | inr x =>
          rw [ex] at hr
          obtain ⟨rfl, hR2, hA2, e12, e13⟩ := hr
          refine kb_4_readLine_289 (hb0 := rfl) (hq := ⟨F'.L.tr G.L, rfl, hR2.1, hR2.2.1, ?_⟩)
          have GF : ∀ k, k ≠ 4 → k ≠ 5 → k ≠ 7 → am_I υ 1 k = am_I σ 1 k := fun k a b c => (G.1 k (by simp [b])).trans (by rw [am_I_sI, if_neg (fun z => a z.1)]; exact F.1 k (by simp [c]))
          obtain ⟨⟨b0, b1, b2, b3, b4, b6, b7⟩, b8, b9, b10, b11⟩ := hq
          refine ⟨⟨(GF 0 (by decide) (by decide) (by decide)).trans b0, (GF 1 (by decide) (by decide) (by decide)).trans b1, (GF 2 (by decide) (by decide) (by decide)).trans b2, (GF 3 (by decide) (by decide) (by decide)).trans b3, (G.1 4 rfl).trans (by rw [am_I_sI, if_pos ⟨rfl, rfl⟩]; rfl), (GF 6 (by decide) (by decide) (by decide)).trans b6, (G.1 7 rfl).trans (by rw [am_I_sI, if_neg (by simp)]; exact h7)⟩, hA2, by rw [G.2.1 8 rfl, G.2.1 9 rfl, F'.2.1 8 rfl, F'.2.1 9 rfl]; exact b9, fun c' hc' => ?_, by rw [G.2.1 14 rfl, G.2.1 15 rfl, F'.2.1 14 rfl, F'.2.1 15 rfl]; exact b11⟩
          rw [e12, e13, F'.2.1 12 rfl, F'.2.1 13 rfl]
          show upd (am_A σ 1 12) (16 + pP_T (pQ_p q)) (nI (pQ_na q)) c' = nI (up1 (pP_cf (pQ_p q)) (16 + pP_T (pQ_p q)) (pQ_na q) c') ∧ upd (am_A σ 1 13) (16 + pP_T (pQ_p q)) (nI (pQ_na q + 1)) c' = nI (up1 (pP_cf (pQ_p q)) (16 + pP_T (pQ_p q)) (pQ_na q) c' + up1 (pP_cn (pQ_p q)) (16 + pP_T (pQ_p q)) 1 c')
          unfold up1
          by_cases e : c' = 16 + pP_T (pQ_p q)
          · rw [if_pos e, if_pos e, e, upd_s, upd_s]
            exact ⟨rfl, rfl⟩
          · rw [if_neg e, if_neg e, upd_n e, upd_n e]; exact b10 c' hc'
    · have e : pl_line S q i = pl_start S q i := by unfold pl_line; rw [pw, pw, inj 10492274 (by decide) z]; rfl
      rw [e]
      refine kb_4_readLine_81 (hC := by rw [i1]; exact sp_4_openLine (b := 4) hR h0 (by omega) (by decide)) (k := fun r τ hr => ?_)
      unfold pl_start
      rcases opn hr with ⟨z, rfl, F, ok⟩ | ⟨z, rfl, F, hR1, h7, hA1⟩
      · rw [if_pos z]
        exact kb_4_readLine_93 (kt := fun z => absurd rfl z) (kf := fun _ => kb_4_readLine_96 ⟨F, ok _ _⟩)
      · rw [if_neg z]
        refine kb_4_readLine_93 (kf := fun z => absurd z (by decide)) (kt := fun _ => ?_)
        have j1 : am_I τ 1 1 = nI (pP_ns (pQ_p q)) := (F.1 1 rfl).trans i1
        have O1 : am_On 1 τ (am_sI τ 1 1 (nI (pP_ns (pQ_p q) + 1))) := am_On.rf.sI _ _
        have F' : fr_1 [1, 2, 3, 4, 7] [] σ (am_sI τ 1 1 (nI (pP_ns (pQ_p q) + 1))) := (F.wid rfl rfl).sI (by rfl) _
        refine kb_4_readLine_98 (hC := by rw [j1, nI_1, nI_pred]; exact sp_4_readCondition (hR1.o1 O1) (hA1.cg (by rw [am_I_sI, if_neg (by simp)]) rfl rfl) (by show pQ_na q + 8 ≤ 144; omega) (by omega)) (k := fun r υ hr => ?_)
        obtain ⟨G, hr⟩ := hr
        have hrr : r = some (.int 0) ∨ r = some (.int 1) := by
          unfold rd_R at hr
          split at hr
          · exact Or.inl hr.1
          · exact Or.inr hr.1
        have fin := rl_con (ns := pP_ns (pQ_p q) + 1) (nb := pP_nb (pQ_p q)) (K := pP_K (pQ_p q)) (T := pP_T (pQ_p q)) hq F' (by rw [am_I_sI, if_pos ⟨rfl, rfl⟩]) (by rw [am_I_sI, if_neg (by simp)]; exact (F.1 2 rfl).trans i2) (by rw [am_I_sI, if_neg (by simp)]; exact (F.1 3 rfl).trans i3) (by rw [am_I_sI, if_neg (by simp)]; exact (F.1 4 rfl).trans i4) (by rw [am_I_sI, if_neg (by simp)]; exact h7) G hr
        rcases hrr with rfl | rfl
        · exact kb_4_readLine_124 (hb0 := rfl) (hq := ⟨F'.L.tr G.L, fin⟩)
        · exact kb_4_readLine_124 (hb0 := rfl) (hq := ⟨F'.L.tr G.L, fin⟩)
    · refine dflt _ ?_
      obtain ⟨z0, z1, z2, z3, z4, z5⟩ := z
      have ne : ∀ w, ¬ nI (S i).2.2.2 = nI w → decide ((S i).2.2.2 = w) = false := fun w hw => decide_eq_false (fun e => hw (by rw [e]))
      unfold pl_line
      rw [pw, pw, pw, pw, pw, pw, ne 16083 z2, ne 10492274 z5, ne 1489 z0, ne 388708 z3, ne 14006 z1, ne 397838 z4]
      rfl
  · have pw : ∀ w, pa_w w (S i) = false := fun w => by unfold pa_w; simp [ck]
    refine kb_4_readLine_0 (kf := fun z => absurd (k1.mp z) ck) (kt := fun _ => kb_4_readLine_15 (k := ?_))
    have e : pl_line S q i = .inl (1, (S i).2.1) := by unfold pl_line; rw [pw, pw, pw, pw, pw, pw]; rfl
    exact kb_4_readLine_16 (k0 := fun z => absurd z (by decide)) (k1 := fun z => absurd z (by decide)) (k2 := fun z => absurd z (by decide)) (k3 := fun z => absurd z (by decide)) (k4 := fun z => absurd z (by decide)) (k5 := fun z => absurd z (by decide)) (kd := fun _ => dflt _ e)
end CREAD
