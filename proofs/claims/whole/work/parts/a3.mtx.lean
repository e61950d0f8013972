/-! the reference's text; the reference in a state -/
def pP_sw (p : pl_P) (cf' : Nat → Nat) : pl_P := (pP_nv p, pP_ns p, pP_nb p, pP_K p, pP_T p, pP_lo p, pP_wd p, pP_sg p, pP_fm p, cf', pP_cn p, pP_g p, pP_sf p)
theorem pP_sw_c {p : pl_P} {cf' : Nat → Nat} (h : ∀ c, pP_cn p c ≠ 0 → cf' c = pP_cf p c) (x : Nat → Int32) (c : Nat) : pw_c (pP_sw p cf') x c = pw_c p x c := by
  show pl_al (pl_at (pP_nv p) (pP_sg p) (pP_fm p) x) (cf' c) (pP_cn p c) = pl_al (pl_at (pP_nv p) (pP_sg p) (pP_fm p) x) (pP_cf p c) (pP_cn p c)
  by_cases z : pP_cn p c = 0
  · rw [z]; rfl
  · rw [h c z]
theorem pP_sw_w {p : pl_P} {cf' : Nat → Nat} (h : ∀ c, pP_cn p c ≠ 0 → cf' c = pP_cf p c) : pw_tb (pP_sw p cf') = pw_tb p ∧ pw_nx (pP_sw p cf') = pw_nx p ∧ ∀ N, pw_fl (pP_sw p cf') N = pw_fl p N := by
  have hc := pP_sw_c h
  have e1 : pw_st (pP_sw p cf') = pw_st p := by
    funext s
    show pl_ex (fun c => pw_c (pP_sw p cf') (pw_x p s) c) (pP_ns p) = pl_ex (fun c => pw_c p (pw_x p s) c) (pP_ns p)
    rw [funext (fun c => hc (pw_x p s) c)]
  have e2 : pw_bd (pP_sw p cf') = pw_bd p := by
    funext s
    show pl_ex (fun c => pw_c (pP_sw p cf') (pw_x p s) (4 + c)) (pP_nb p) = pl_ex (fun c => pw_c p (pw_x p s) (4 + c)) (pP_nb p)
    rw [funext (fun c => hc (pw_x p s) (4 + c))]
  have e3 : pw_tb (pP_sw p cf') = pw_tb p := by
    funext s
    show pl_tb (fun t => pw_c (pP_sw p cf') (pw_x p s) (16 + t)) (pP_T p) = pl_tb (fun t => pw_c p (pw_x p s) (16 + t)) (pP_T p)
    rw [funext (fun t => hc (pw_x p s) (16 + t))]
  have e4 : pw_nx (pP_sw p cf') = pw_nx p := by
    funext s k
    show (if pw_c (pP_sw p cf') (pw_x p s) (8 + k) = true then _ else none) = (if pw_c p (pw_x p s) (8 + k) = true then _ else none)
    rw [hc]
    rfl
  refine ⟨e3, e4, fun N => ?_⟩
  funext s c
  show (if c = 0 then pw_st (pP_sw p cf') s else if c = 1 then pw_bd (pP_sw p cf') s else if c = 2 then rl_clo (nx_R N (pP_K p) (pw_nx (pP_sw p cf'))) (am_lN N (pw_st (pP_sw p cf'))) s else rl_clo (nx_B N (pP_K p) (pw_nx (pP_sw p cf'))) (am_lN N (pw_bd (pP_sw p cf'))) s) = _
  rw [e1, e2, e4]
  rfl
section MTX
variable {d : Nat} {σ : am_St}
theorem rq_P.rm {q : pa_Q} {l : Nat} (h : rq_P σ q l) (hk : pq_ok q) : ∃ cf', (∀ c, pP_cn (pQ_p q) c ≠ 0 → cf' c = pP_cf (pQ_p q) c) ∧ rm_P (am_sA σ 16 3 (am_A σ 16 4)) (pP_sw (pQ_p q) cf') (pQ_N q) := by
  obtain ⟨⟨⟨a0, a1, a2, a3, a4⟩, b, c, e, f, g⟩, b2, b3, b4, b5, b6⟩ := h
  obtain ⟨k0, k1, k2, k3, k4, k5, k6⟩ := hk
  obtain ⟨c1, n1, n2, n3, n4⟩ := k0
  have hn3 := c1.1
  have AW : am_A (am_sA σ 16 3 (am_A σ 16 4)) 16 3 = am_A σ 16 4 := by rw [am_A_sA, if_pos ⟨rfl, rfl⟩]
  obtain ⟨cf', hcf⟩ : ∃ cf' : Nat → Nat, cf' = fun c => if 8 ≤ c ∧ c < 8 + pP_K (pQ_p q) then (am_A σ 16 4 (30 + 17 * (c - 8))).toNatClampNeg else pP_cf (pQ_p q) c := ⟨_, rfl⟩
  have cs : ∀ k, k < pP_K (pQ_p q) → cf' (8 + k) ≤ pQ_na q ∧ am_A σ 16 4 (30 + 17 * k) = nI (cf' (8 + k)) ∧ (pP_cn (pQ_p q) (8 + k) ≠ 0 → cf' (8 + k) = pP_cf (pQ_p q) (8 + k)) := fun k hk => by
    obtain ⟨⟨x, x1, x2, x3⟩, -, -⟩ := f k hk
    have : cf' (8 + k) = x := by
      rw [hcf]
      show (if 8 ≤ 8 + k ∧ 8 + k < 8 + pP_K (pQ_p q) then (am_A σ 16 4 (30 + 17 * (8 + k - 8))).toNatClampNeg else _) = x
      rw [if_pos (by omega), show 8 + k - 8 = k by omega, x2, nI_clamp (by omega)]
    rw [this]
    exact ⟨x1, x2, x3⟩
  have co : ∀ c, ¬ (8 ≤ c ∧ c < 8 + pP_K (pQ_p q)) → cf' c = pP_cf (pQ_p q) c := fun c hc => by rw [hcf]; exact if_neg hc
  have ce : ∀ c, pP_cn (pQ_p q) c ≠ 0 → cf' c = pP_cf (pQ_p q) c := fun c hc => by
    by_cases z : 8 ≤ c ∧ c < 8 + pP_K (pQ_p q)
    · obtain ⟨k, hk, rfl⟩ : ∃ k, k < pP_K (pQ_p q) ∧ c = 8 + k := ⟨c - 8, by omega, by omega⟩
      exact (cs k hk).2.2 hc
    · exact co c z
  refine ⟨cf', ce, ⟨c1, n1, n2, n3, n4⟩, ⟨c1, by rw [AW]; exact a0, by rw [AW]; exact a1, by rw [AW]; exact a2, by rw [AW]; exact b⟩, ⟨pQ_na q, by omega, fun c hc => ?_, fun c' hc' => ?_, fun c' hc' => ?_, fun k hk => ?_, fun t ht => ?_, fun a ha => ?_⟩, by rw [AW]; exact a3, by rw [AW]; exact a4⟩
  · show cf' c + pP_cn (pQ_p q) c ≤ pQ_na q
    by_cases z : pP_cn (pQ_p q) c = 0
    · rw [z]
      by_cases y : 8 ≤ c ∧ c < 8 + pP_K (pQ_p q)
      · obtain ⟨k, hk, rfl⟩ : ∃ k, k < pP_K (pQ_p q) ∧ c = 8 + k := ⟨c - 8, by omega, by omega⟩
        exact (cs k hk).1
      · rw [co c y]
        have := k2 c hc
        omega
    · rw [ce c z]; exact k2 c hc
  · have hc2 : c' < pP_ns (pQ_p q) := hc'
    show am_A (am_sA σ 16 3 (am_A σ 16 4)) 16 3 (14 + 2 * c') = nI (cf' c') ∧ am_A (am_sA σ 16 3 (am_A σ 16 4)) 16 3 (14 + 2 * c' + 1) = nI (pP_cn (pQ_p q) c')
    rw [AW, co c' (by omega)]; exact c c' hc2
  · have hc2 : c' < pP_nb (pQ_p q) := hc'
    show am_A (am_sA σ 16 3 (am_A σ 16 4)) 16 3 (22 + 2 * c') = nI (cf' (4 + c')) ∧ am_A (am_sA σ 16 3 (am_A σ 16 4)) 16 3 (22 + 2 * c' + 1) = nI (pP_cn (pQ_p q) (4 + c'))
    rw [AW, co (4 + c') (by omega)]; exact e c' hc2
  · have hk2 : k < pP_K (pQ_p q) := hk
    obtain ⟨-, f2, f3⟩ := f k hk2
    refine ⟨by rw [AW]; exact (cs k hk2).2.1, by rw [AW]; exact f2, fun v hv => ?_⟩
    have hv2 : v < pP_nv (pQ_p q) := hv
    rw [AW]
    refine ⟨(f3 v (by omega)).1, fun z j hj => ?_⟩
    have := (f3 v (by omega)).2 j hj
    have z' : pP_g (pQ_p q) (3 * k + v) = true := z
    rw [if_pos z'] at this
    exact this
  · have ht2 : t < pP_T (pQ_p q) := ht
    show am_A (am_sA σ 16 3 (am_A σ 16 4)) 16 3 (166 + t) = nI (cf' (16 + t)) ∧ pP_cn (pQ_p q) (16 + t) = 1
    rw [AW, co (16 + t) (by omega)]; exact ⟨g t ht2, k4 t ht2⟩
  · rw [AW]; exact ⟨(b2.2 a ha).1, k3 a ha, (b2.2 a ha).2⟩
/-- the reference is in the state s -/
def ri (σ : am_St) (s : st_X) : Prop := (am_I σ 16 2 = nI (sX_l s) ∧ (∀ i, i < sX_l s → am_A σ 16 1 i = sX_t s i) ∧ am_I σ 16 14 = sX_f s ∧ am_I σ 16 15 = sX_g s ∧ am_I σ 16 30 = -1) ∧ mo_V σ (pP_nv (sX_p s)) (pP_ns (sX_p s)) (pP_nb (sX_p s)) (pP_lo (sX_p s)) (pP_wd (sX_p s)) (sX_N s) ∧ mo_Wo σ (sX_N s) (pP_K (sX_p s)) (pP_T (sX_p s)) (pw_tb (sX_p s)) (pw_fl (sX_p s) (sX_N s)) (pw_nx (sX_p s)) ∧ mo_C σ (sX_y s) (sX_c s) (sX_o s) (fun t => bt (tg_al (pP_T (sX_p s))) t) (pP_T (sX_p s)) (sX_N s)
theorem ri.fm {τ : am_St} {s : st_X} {is as : List Nat} (h : ri σ s) (F : mo_Fm is as σ τ) (hi : is.all (fun k => [0, 6, 7, 8, 9, 10, 11, 12, 13, 16].contains k) = true) (ha : as.all (fun k => [4, 5].contains k) = true) : ri τ s := by
  have F' : mo_Fm [0, 6, 7, 8, 9, 10, 11, 12, 13, 16] [4, 5] σ τ := F.wid hi ha
  obtain ⟨⟨a1, a2, a3, a4, a5⟩, a6, a7, a8⟩ := h
  exact ⟨⟨(F'.1 2 rfl).trans a1, by rw [F'.2 1 rfl]; exact a2, (F'.1 14 rfl).trans a3, (F'.1 15 rfl).trans a4, (F'.1 30 rfl).trans a5⟩, a6.fm F' rfl, a7.fm F' rfl (fun k hk => by rcases hk with rfl | rfl | rfl | rfl | rfl | rfl | rfl <;> rfl), a8.fm F' ⟨rfl, rfl, rfl⟩ ⟨rfl, rfl⟩⟩
theorem sp_11_text {s : st_X} (h : ri σ s) (hs : sX_ok s) (x : Int32) : am_C true ya_11_text (d + 14) [.ref (am_oid 16), .int x] σ (fun r τ => r = some (.int (v_text s x).1) ∧ ri τ (v_text s x).2) := by
  obtain ⟨c1, c2, c3, c4⟩ := hs
  have F0 : mo_Fm [0] [] σ (am_sI σ 16 0 0) := mo_Fm.rf.sI (by rfl) _
  have h0 : ri (am_sI σ 16 0 0) s := h.fm F0 rfl rfl
  obtain ⟨σ0, hσ⟩ : ∃ σ0, σ0 = am_sI σ 16 0 0 := ⟨_, rfl⟩
  rw [← hσ] at h0
  have h0' := h0
  obtain ⟨⟨a1, a2, a3, a4, a5⟩, a6, a7, a8⟩ := h0'
  refine am_enter rfl (by simp [Value.category]) (Nat.le_of_ble_eq_true rfl) ?_
  unfold v_text
  by_cases z1 : x < 0
  · rw [if_pos (Or.inl z1)]
    refine kb_11_text_0 (kf := fun z => absurd z1 z) (kt := fun _ => kb_11_text_17 ?_)
    rw [← hσ]; exact ⟨rfl, h0⟩
  refine kb_11_text_0 (kt := fun z => absurd z z1) (kf := fun _ => ?_)
  rw [← hσ]
  by_cases z2 : x ≤ nI (sX_l s)
  · rw [if_neg (fun z => z.elim z1 (fun w => w z2))]
    refine kb_11_text_9 (kf := fun z => absurd (by rw [a1]; exact z2) z) (kt := fun _ => ?_)
    obtain ⟨n, hn, e⟩ := nI_rg (show sX_l s < 2 ^ 31 by omega) z1 z2
    subst e
    rw [nI_clamp (show n < 2 ^ 31 by omega)]
    refine kb_11_text_20 (hC := sp_11_readText (d := d) (tc := tc_ (sX_t s)) (by omega) (tc_lt _) (fun i hi => by rw [a2 i (by omega)]; exact c3 i (by omega))) (k := fun r τ hr => ?_)
    obtain ⟨rfl, F, hr⟩ := hr
    have hτ := h0.fm F rfl rfl
    cases ex : pl_all (tc_ (sX_t s)) n with
    | inl e =>
      have hz := rr_f (pl_tx_e (n + 1) ex) (by rw [ex] at hr; exact hr)
      rw [ex] at hr
      obtain ⟨p1, p2⟩ := hr
      obtain ⟨⟨t1, t2, t3, t4, t5⟩, t6, t7, t8⟩ := hτ
      refine kb_11_text_25 (kf := fun z => absurd z hz) (kt := fun _ => kb_11_text_50 (k := kb_11_text_54 (kt := fun z => absurd z ?_) (kf := fun _ => kb_11_text_64 ⟨rfl, ?_⟩)))
      · rw [am_I_sI, if_neg (by simp), am_I_sI, if_neg (by simp)]; exact hz
      obtain ⟨υ, hυ⟩ : ∃ υ, υ = am_sI (am_sI (am_sI τ 16 2 0) 16 14 (am_I τ 16 12)) 16 15 (am_I (am_sI (am_sI τ 16 2 0) 16 14 (am_I τ 16 12)) 16 13) := ⟨_, rfl⟩
      rw [← hυ]
      have G : mo_Fm [2, 14, 15] [] τ υ := by rw [hυ]; exact ((mo_Fm.rf.sI (by rfl) _).sI (by rfl) _).sI (by rfl) _
      refine ⟨⟨?_, fun i hi => absurd hi (Nat.not_lt_zero i), ?_, ?_, (G.1 30 rfl).trans t5⟩, t6.fm G rfl, t7.fm G rfl (fun k hk => by rcases hk with rfl | rfl | rfl | rfl | rfl | rfl | rfl <;> rfl), t8.fm G ⟨rfl, rfl, rfl⟩ ⟨rfl, rfl⟩⟩
      · rw [hυ, am_I_sI, if_neg (by simp), am_I_sI, if_neg (by simp), am_I_sI, if_pos ⟨rfl, rfl⟩]; rfl
      · rw [hυ, am_I_sI, if_neg (by simp), am_I_sI, if_pos ⟨rfl, rfl⟩]; exact p1
      · rw [hυ, am_I_sI, if_pos ⟨rfl, rfl⟩, am_I_sI, if_neg (by simp), am_I_sI, if_neg (by simp)]; exact p2
    | inr a =>
      have hk := pl_tx_ok (tk_s_B (by omega)) (n + 1) pq_ok_0 ex
      rw [ex] at hr
      obtain ⟨p1, hP⟩ := hr
      obtain ⟨υ, hυ⟩ : ∃ υ, υ = am_sI (am_sI (am_sI τ 16 2 0) 16 14 (am_I τ 16 12)) 16 15 (-1) := ⟨_, rfl⟩
      have G : mo_Fm [2, 14, 15] [] τ υ := by rw [hυ]; exact ((mo_Fm.rf.sI (by rfl) _).sI (by rfl) _).sI (by rfl) _
      refine kb_11_text_25 (kt := fun z => absurd p1 z) (kf := fun _ => kb_11_text_46 (k := kb_11_text_54 (kf := fun z => absurd (by rw [am_I_sI, if_neg (by simp), am_I_sI, if_neg (by simp)]; exact p1) z) (kt := fun _ => ?_)))
      rw [← hυ]
      obtain ⟨cf', ce, hm⟩ := hP.rm hk
      obtain ⟨w1, w2, w3⟩ := pP_sw_w ce
      have hm' : rm_P (am_sA υ 16 3 (am_A υ 16 4)) (pP_sw (pQ_p a.2) cf') (pQ_N a.2) := hm.same (by rw [am_A_sA, if_pos ⟨rfl, rfl⟩, am_A_sA, if_pos ⟨rfl, rfl⟩, G.2 4 rfl])
      refine kb_11_text_66 (hC := sp_11_becomes0 (d := d + 8) hm' ((G.1 30 rfl).trans hτ.1.2.2.2.2)) (k := fun r ω hr => ?_)
      obtain ⟨rfl, FB, e6, g1, g2, g3⟩ := hr
      rw [w1, w2, w3] at g2
      have e6' : am_A ω 16 3 6 = nI a.1 := by rw [e6 6 (by decide), G.2 4 rfl]; exact hP.2.2.2.2.2
      refine kb_11_text_70 ⟨by rw [e6'], ⟨(FB.1 2 rfl).trans ?_, fun i hi => absurd hi (Nat.not_lt_zero i), (FB.1 14 rfl).trans ?_, (FB.1 15 rfl).trans ?_, (FB.1 30 rfl).trans ((G.1 30 rfl).trans hτ.1.2.2.2.2)⟩, g1, g2, g3⟩
      · rw [hυ, am_I_sI, if_neg (by simp), am_I_sI, if_neg (by simp), am_I_sI, if_pos ⟨rfl, rfl⟩]; rfl
      · rw [hυ, am_I_sI, if_neg (by simp), am_I_sI, if_pos ⟨rfl, rfl⟩]; exact p1
      · rw [hυ, am_I_sI, if_pos ⟨rfl, rfl⟩]
  · rw [if_pos (Or.inr z2)]
    exact kb_11_text_9 (kt := fun z => absurd (by rw [a1] at z; exact z) z2) (kf := fun _ => kb_11_text_17 ⟨rfl, h0⟩)
end MTX
