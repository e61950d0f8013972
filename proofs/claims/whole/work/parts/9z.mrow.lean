/-! the reference's row while a text is read -/
def rq_W (W : Nat → Int32) (q : pa_Q) : Prop := (W 0 = nI (pP_nv (pQ_p q)) ∧ W 1 = nI (pP_ns (pQ_p q)) ∧ W 2 = nI (pP_nb (pQ_p q)) ∧ W 3 = nI (pP_K (pQ_p q)) ∧ W 4 = nI (pP_T (pQ_p q))) ∧ (∀ v, v < pP_nv (pQ_p q) → W (8 + 2 * v) = iI (pP_lo (pQ_p q) v) ∧ W (8 + 2 * v + 1) = iI (pP_lo (pQ_p q) v + pP_wd (pQ_p q) v - 1)) ∧ (∀ c, c < pP_ns (pQ_p q) → W (14 + 2 * c) = nI (pP_cf (pQ_p q) c) ∧ W (14 + 2 * c + 1) = nI (pP_cn (pQ_p q) c)) ∧ (∀ c, c < pP_nb (pQ_p q) → W (22 + 2 * c) = nI (pP_cf (pQ_p q) (4 + c)) ∧ W (22 + 2 * c + 1) = nI (pP_cn (pQ_p q) (4 + c))) ∧ (∀ k, k < pP_K (pQ_p q) → (∃ x, x ≤ pQ_na q ∧ W (30 + 17 * k) = nI x ∧ (pP_cn (pQ_p q) (8 + k) ≠ 0 → x = pP_cf (pQ_p q) (8 + k))) ∧ W (30 + 17 * k + 1) = nI (pP_cn (pQ_p q) (8 + k)) ∧ ∀ v, v < 3 → W (30 + 17 * k + 2 + 5 * v) = am_bI (pP_g (pQ_p q) (3 * k + v)) ∧ ∀ j, j < 4 → W (30 + 17 * k + 2 + 5 * v + 1 + j) = if pP_g (pQ_p q) (3 * k + v) = true then pP_sf (pQ_p q) (3 * k + v) j else 0) ∧ ∀ t, t < pP_T (pQ_p q) → W (166 + t) = nI (pP_cf (pQ_p q) (16 + t))
theorem up1_s {α : Type} (f : Nat → α) (k : Nat) (x : α) : up1 f k x k = x := if_pos rfl
theorem up1_n {α : Type} {f : Nat → α} {k i : Nat} {x : α} (h : i ≠ k) : up1 f k x i = f i := if_neg h
section MROW
variable {W W' : Nat → Int32} {q : pa_Q} {A : pa_A} {x : Nat}
theorem rq_W.start (h : rq_W W q) (hk : pq_ok q) (h4 : pP_ns (pQ_p q) < 4) (o : ∀ k, k < 182 → k ≠ 1 → k ≠ 5 → k ≠ 14 + 2 * pP_ns (pQ_p q) → k ≠ 14 + 2 * pP_ns (pQ_p q) + 1 → W' k = W k) (w1 : W' 1 = nI (pP_ns (pQ_p q) + 1)) (w2 : W' (14 + 2 * pP_ns (pQ_p q)) = nI (pQ_na q)) (w3 : W' (14 + 2 * pP_ns (pQ_p q) + 1) = nI x) (hA : pQ_na q ≤ A.1) : rq_W W' (pq_c q (pP_ns (pQ_p q) + 1) (pP_nb (pQ_p q)) (pP_K (pQ_p q)) (pP_T (pQ_p q)) A (up1 (pP_cf (pQ_p q)) (pP_ns (pQ_p q)) (pQ_na q)) (up1 (pP_cn (pQ_p q)) (pP_ns (pQ_p q)) x)) := by
  obtain ⟨⟨⟨c1, -, -, -⟩, n1, n2, n3, n4⟩, -⟩ := hk
  obtain ⟨⟨a0, a1, a2, a3, a4⟩, b, c, e, f, g⟩ := h
  refine ⟨⟨(o 0 (by omega) (by omega) (by omega) (by omega) (by omega)).trans a0, w1, (o 2 (by omega) (by omega) (by omega) (by omega) (by omega)).trans a2, (o 3 (by omega) (by omega) (by omega) (by omega) (by omega)).trans a3, (o 4 (by omega) (by omega) (by omega) (by omega) (by omega)).trans a4⟩, fun v hv => ?_, fun c' hc' => ?_, fun c' hc' => ?_, fun k hk' => ?_, fun t ht => ?_⟩
  · have hv' : v < pP_nv (pQ_p q) := hv
    rw [o _ (by omega) (by omega) (by omega) (by omega) (by omega), o _ (by omega) (by omega) (by omega) (by omega) (by omega)]; exact b v hv
  · have hc2 : c' < pP_ns (pQ_p q) + 1 := hc'
    show W' (14 + 2 * c') = nI (up1 (pP_cf (pQ_p q)) (pP_ns (pQ_p q)) (pQ_na q) c') ∧ W' (14 + 2 * c' + 1) = nI (up1 (pP_cn (pQ_p q)) (pP_ns (pQ_p q)) x c')
    by_cases z : c' = pP_ns (pQ_p q)
    · rw [z, up1_s, up1_s]; exact ⟨w2, w3⟩
    · rw [up1_n z, up1_n z, o _ (by omega) (by omega) (by omega) (by omega) (by omega), o _ (by omega) (by omega) (by omega) (by omega) (by omega)]; exact c c' (by omega)
  · have hc2 : c' < pP_nb (pQ_p q) := hc'
    show W' (22 + 2 * c') = nI (up1 (pP_cf (pQ_p q)) (pP_ns (pQ_p q)) (pQ_na q) (4 + c')) ∧ W' (22 + 2 * c' + 1) = nI (up1 (pP_cn (pQ_p q)) (pP_ns (pQ_p q)) x (4 + c'))
    rw [up1_n (by omega), up1_n (by omega), o _ (by omega) (by omega) (by omega) (by omega) (by omega), o _ (by omega) (by omega) (by omega) (by omega) (by omega)]; exact e c' hc2
  · have hk2 : k < pP_K (pQ_p q) := hk'
    obtain ⟨⟨y, y1, y2, y3⟩, f2, f3⟩ := f k hk2
    refine ⟨⟨y, Nat.le_trans y1 hA, by rw [o _ (by omega) (by omega) (by omega) (by omega) (by omega)]; exact y2, ?_⟩, ?_, fun v hv => ⟨by rw [o _ (by omega) (by omega) (by omega) (by omega) (by omega)]; exact (f3 v hv).1, fun j hj => by rw [o _ (by omega) (by omega) (by omega) (by omega) (by omega)]; exact (f3 v hv).2 j hj⟩⟩
    · show up1 (pP_cn (pQ_p q)) (pP_ns (pQ_p q)) x (8 + k) ≠ 0 → y = up1 (pP_cf (pQ_p q)) (pP_ns (pQ_p q)) (pQ_na q) (8 + k)
      rw [up1_n (by omega), up1_n (by omega)]; exact y3
    · show W' (30 + 17 * k + 1) = nI (up1 (pP_cn (pQ_p q)) (pP_ns (pQ_p q)) x (8 + k))
      rw [up1_n (by omega), o _ (by omega) (by omega) (by omega) (by omega) (by omega)]; exact f2
  · have ht2 : t < pP_T (pQ_p q) := ht
    show W' (166 + t) = nI (up1 (pP_cf (pQ_p q)) (pP_ns (pQ_p q)) (pQ_na q) (16 + t))
    rw [up1_n (by omega), o _ (by omega) (by omega) (by omega) (by omega) (by omega)]; exact g t ht2
theorem rq_W.bad (h : rq_W W q) (hk : pq_ok q) (h4 : pP_nb (pQ_p q) < 4) (o : ∀ k, k < 182 → k ≠ 2 → k ≠ 5 → k ≠ 22 + 2 * pP_nb (pQ_p q) → k ≠ 22 + 2 * pP_nb (pQ_p q) + 1 → W' k = W k) (w1 : W' 2 = nI (pP_nb (pQ_p q) + 1)) (w2 : W' (22 + 2 * pP_nb (pQ_p q)) = nI (pQ_na q)) (w3 : W' (22 + 2 * pP_nb (pQ_p q) + 1) = nI x) (hA : pQ_na q ≤ A.1) : rq_W W' (pq_c q (pP_ns (pQ_p q)) (pP_nb (pQ_p q) + 1) (pP_K (pQ_p q)) (pP_T (pQ_p q)) A (up1 (pP_cf (pQ_p q)) (4 + pP_nb (pQ_p q)) (pQ_na q)) (up1 (pP_cn (pQ_p q)) (4 + pP_nb (pQ_p q)) x)) := by
  obtain ⟨⟨⟨c1, -, -, -⟩, n1, n2, n3, n4⟩, -⟩ := hk
  obtain ⟨⟨a0, a1, a2, a3, a4⟩, b, c, e, f, g⟩ := h
  refine ⟨⟨(o 0 (by omega) (by omega) (by omega) (by omega) (by omega)).trans a0, (o 1 (by omega) (by omega) (by omega) (by omega) (by omega)).trans a1, w1, (o 3 (by omega) (by omega) (by omega) (by omega) (by omega)).trans a3, (o 4 (by omega) (by omega) (by omega) (by omega) (by omega)).trans a4⟩, fun v hv => ?_, fun c' hc' => ?_, fun c' hc' => ?_, fun k hk' => ?_, fun t ht => ?_⟩
  · have hv' : v < pP_nv (pQ_p q) := hv
    rw [o _ (by omega) (by omega) (by omega) (by omega) (by omega), o _ (by omega) (by omega) (by omega) (by omega) (by omega)]; exact b v hv
  · have hc2 : c' < pP_ns (pQ_p q) := hc'
    show W' (14 + 2 * c') = nI (up1 (pP_cf (pQ_p q)) (4 + pP_nb (pQ_p q)) (pQ_na q) c') ∧ W' (14 + 2 * c' + 1) = nI (up1 (pP_cn (pQ_p q)) (4 + pP_nb (pQ_p q)) x c')
    rw [up1_n (by omega), up1_n (by omega), o _ (by omega) (by omega) (by omega) (by omega) (by omega), o _ (by omega) (by omega) (by omega) (by omega) (by omega)]; exact c c' hc2
  · have hc2 : c' < pP_nb (pQ_p q) + 1 := hc'
    show W' (22 + 2 * c') = nI (up1 (pP_cf (pQ_p q)) (4 + pP_nb (pQ_p q)) (pQ_na q) (4 + c')) ∧ W' (22 + 2 * c' + 1) = nI (up1 (pP_cn (pQ_p q)) (4 + pP_nb (pQ_p q)) x (4 + c'))
    by_cases z : c' = pP_nb (pQ_p q)
    · rw [z, up1_s, up1_s]; exact ⟨w2, w3⟩
    · rw [up1_n (by omega), up1_n (by omega), o _ (by omega) (by omega) (by omega) (by omega) (by omega), o _ (by omega) (by omega) (by omega) (by omega) (by omega)]; exact e c' (by omega)
  · have hk2 : k < pP_K (pQ_p q) := hk'
    obtain ⟨⟨y, y1, y2, y3⟩, f2, f3⟩ := f k hk2
    refine ⟨⟨y, Nat.le_trans y1 hA, by rw [o _ (by omega) (by omega) (by omega) (by omega) (by omega)]; exact y2, ?_⟩, ?_, fun v hv => ⟨by rw [o _ (by omega) (by omega) (by omega) (by omega) (by omega)]; exact (f3 v hv).1, fun j hj => by rw [o _ (by omega) (by omega) (by omega) (by omega) (by omega)]; exact (f3 v hv).2 j hj⟩⟩
    · show up1 (pP_cn (pQ_p q)) (4 + pP_nb (pQ_p q)) x (8 + k) ≠ 0 → y = up1 (pP_cf (pQ_p q)) (4 + pP_nb (pQ_p q)) (pQ_na q) (8 + k)
      rw [up1_n (by omega), up1_n (by omega)]; exact y3
    · show W' (30 + 17 * k + 1) = nI (up1 (pP_cn (pQ_p q)) (4 + pP_nb (pQ_p q)) x (8 + k))
      rw [up1_n (by omega), o _ (by omega) (by omega) (by omega) (by omega) (by omega)]; exact f2
  · have ht2 : t < pP_T (pQ_p q) := ht
    show W' (166 + t) = nI (up1 (pP_cf (pQ_p q)) (4 + pP_nb (pQ_p q)) (pQ_na q) (16 + t))
    rw [up1_n (by omega), o _ (by omega) (by omega) (by omega) (by omega) (by omega)]; exact g t ht2
/-- a step, with a condition or with none -/
theorem rq_W.step {cf' cn' : Nat → Nat} {xf : Nat} (h : rq_W W q) (hk : pq_ok q) (h8 : pP_K (pQ_p q) < 8) (o : ∀ k, k < 182 → k ≠ 3 → k ≠ 5 → ¬ (30 + 17 * pP_K (pQ_p q) ≤ k ∧ k < 30 + 17 * pP_K (pQ_p q) + 17) → W' k = W k) (w1 : W' 3 = nI (pP_K (pQ_p q) + 1)) (w2 : W' (30 + 17 * pP_K (pQ_p q)) = nI xf) (w3 : W' (30 + 17 * pP_K (pQ_p q) + 1) = nI (cn' (8 + pP_K (pQ_p q)))) (w4 : ∀ j, 2 ≤ j → j < 17 → W' (30 + 17 * pP_K (pQ_p q) + j) = 0) (hA : pQ_na q ≤ A.1) (hxf : xf ≤ A.1) (hcf : cn' (8 + pP_K (pQ_p q)) ≠ 0 → xf = cf' (8 + pP_K (pQ_p q))) (hc : ∀ c, c ≠ 8 + pP_K (pQ_p q) → cf' c = pP_cf (pQ_p q) c ∧ cn' c = pP_cn (pQ_p q) c) : rq_W W' (pq_c q (pP_ns (pQ_p q)) (pP_nb (pQ_p q)) (pP_K (pQ_p q) + 1) (pP_T (pQ_p q)) A cf' cn') := by
  have h5 := hk.2.2.2.2.2.1
  obtain ⟨⟨⟨c1, -, -, -⟩, n1, n2, n3, n4⟩, -⟩ := hk
  obtain ⟨⟨a0, a1, a2, a3, a4⟩, b, c, e, f, g⟩ := h
  refine ⟨⟨(o 0 (by omega) (by omega) (by omega) (by omega)).trans a0, (o 1 (by omega) (by omega) (by omega) (by omega)).trans a1, (o 2 (by omega) (by omega) (by omega) (by omega)).trans a2, w1, (o 4 (by omega) (by omega) (by omega) (by omega)).trans a4⟩, fun v hv => ?_, fun c' hc' => ?_, fun c' hc' => ?_, fun k hk' => ?_, fun t ht => ?_⟩
  · have hv' : v < pP_nv (pQ_p q) := hv
    rw [o _ (by omega) (by omega) (by omega) (by omega), o _ (by omega) (by omega) (by omega) (by omega)]; exact b v hv
  · have hc2 : c' < pP_ns (pQ_p q) := hc'
    show W' (14 + 2 * c') = nI (cf' c') ∧ W' (14 + 2 * c' + 1) = nI (cn' c')
    rw [(hc c' (by omega)).1, (hc c' (by omega)).2, o _ (by omega) (by omega) (by omega) (by omega), o _ (by omega) (by omega) (by omega) (by omega)]; exact c c' hc2
  · have hc2 : c' < pP_nb (pQ_p q) := hc'
    show W' (22 + 2 * c') = nI (cf' (4 + c')) ∧ W' (22 + 2 * c' + 1) = nI (cn' (4 + c'))
    rw [(hc (4 + c') (by omega)).1, (hc (4 + c') (by omega)).2, o _ (by omega) (by omega) (by omega) (by omega), o _ (by omega) (by omega) (by omega) (by omega)]; exact e c' hc2
  · have hk2 : k < pP_K (pQ_p q) + 1 := hk'
    by_cases z : k = pP_K (pQ_p q)
    · subst z
      refine ⟨⟨xf, hxf, w2, hcf⟩, w3, fun v hv => ?_⟩
      have hg := (h5 (pP_K (pQ_p q)) (Nat.le_refl _) h8).2 v hv
      show W' (30 + 17 * pP_K (pQ_p q) + 2 + 5 * v) = am_bI (pP_g (pQ_p q) (3 * pP_K (pQ_p q) + v)) ∧ ∀ j, j < 4 → W' (30 + 17 * pP_K (pQ_p q) + 2 + 5 * v + 1 + j) = if pP_g (pQ_p q) (3 * pP_K (pQ_p q) + v) = true then pP_sf (pQ_p q) (3 * pP_K (pQ_p q) + v) j else 0
      rw [hg]
      refine ⟨?_, fun j hj => ?_⟩
      · rw [show 30 + 17 * pP_K (pQ_p q) + 2 + 5 * v = 30 + 17 * pP_K (pQ_p q) + (2 + 5 * v) by omega]; exact w4 _ (by omega) (by omega)
      · rw [show 30 + 17 * pP_K (pQ_p q) + 2 + 5 * v + 1 + j = 30 + 17 * pP_K (pQ_p q) + (2 + 5 * v + 1 + j) by omega]; exact w4 _ (by omega) (by omega)
    · obtain ⟨⟨y, y1, y2, y3⟩, f2, f3⟩ := f k (by omega)
      have hcc := hc (8 + k) (by omega)
      refine ⟨⟨y, Nat.le_trans y1 hA, by rw [o _ (by omega) (by omega) (by omega) (by omega)]; exact y2, ?_⟩, ?_, fun v hv => ⟨by rw [o _ (by omega) (by omega) (by omega) (by omega)]; exact (f3 v hv).1, fun j hj => by rw [o _ (by omega) (by omega) (by omega) (by omega)]; exact (f3 v hv).2 j hj⟩⟩
      · show cn' (8 + k) ≠ 0 → y = cf' (8 + k)
        rw [hcc.1, hcc.2]; exact y3
      · show W' (30 + 17 * k + 1) = nI (cn' (8 + k))
        rw [hcc.2, o _ (by omega) (by omega) (by omega) (by omega)]; exact f2
  · have ht2 : t < pP_T (pQ_p q) := ht
    show W' (166 + t) = nI (cf' (16 + t))
    rw [(hc (16 + t) (by omega)).1, o _ (by omega) (by omega) (by omega) (by omega)]; exact g t ht2
theorem rq_W.test (h : rq_W W q) (hk : pq_ok q) (h16 : pP_T (pQ_p q) < 16) (o : ∀ k, k < 182 → k ≠ 4 → k ≠ 5 → k ≠ 166 + pP_T (pQ_p q) → W' k = W k) (w1 : W' 4 = nI (pP_T (pQ_p q) + 1)) (w2 : W' (166 + pP_T (pQ_p q)) = nI (pQ_na q)) (hA : pQ_na q ≤ A.1) : rq_W W' (pq_c q (pP_ns (pQ_p q)) (pP_nb (pQ_p q)) (pP_K (pQ_p q)) (pP_T (pQ_p q) + 1) A (up1 (pP_cf (pQ_p q)) (16 + pP_T (pQ_p q)) (pQ_na q)) (up1 (pP_cn (pQ_p q)) (16 + pP_T (pQ_p q)) 1)) := by
  obtain ⟨⟨⟨c1, -, -, -⟩, n1, n2, n3, n4⟩, -⟩ := hk
  obtain ⟨⟨a0, a1, a2, a3, a4⟩, b, c, e, f, g⟩ := h
  refine ⟨⟨(o 0 (by omega) (by omega) (by omega) (by omega)).trans a0, (o 1 (by omega) (by omega) (by omega) (by omega)).trans a1, (o 2 (by omega) (by omega) (by omega) (by omega)).trans a2, (o 3 (by omega) (by omega) (by omega) (by omega)).trans a3, w1⟩, fun v hv => ?_, fun c' hc' => ?_, fun c' hc' => ?_, fun k hk' => ?_, fun t ht => ?_⟩
  · have hv' : v < pP_nv (pQ_p q) := hv
    rw [o _ (by omega) (by omega) (by omega) (by omega), o _ (by omega) (by omega) (by omega) (by omega)]; exact b v hv
  · have hc2 : c' < pP_ns (pQ_p q) := hc'
    show W' (14 + 2 * c') = nI (up1 (pP_cf (pQ_p q)) (16 + pP_T (pQ_p q)) (pQ_na q) c') ∧ W' (14 + 2 * c' + 1) = nI (up1 (pP_cn (pQ_p q)) (16 + pP_T (pQ_p q)) 1 c')
    rw [up1_n (by omega), up1_n (by omega), o _ (by omega) (by omega) (by omega) (by omega), o _ (by omega) (by omega) (by omega) (by omega)]; exact c c' hc2
  · have hc2 : c' < pP_nb (pQ_p q) := hc'
    show W' (22 + 2 * c') = nI (up1 (pP_cf (pQ_p q)) (16 + pP_T (pQ_p q)) (pQ_na q) (4 + c')) ∧ W' (22 + 2 * c' + 1) = nI (up1 (pP_cn (pQ_p q)) (16 + pP_T (pQ_p q)) 1 (4 + c'))
    rw [up1_n (by omega), up1_n (by omega), o _ (by omega) (by omega) (by omega) (by omega), o _ (by omega) (by omega) (by omega) (by omega)]; exact e c' hc2
  · have hk2 : k < pP_K (pQ_p q) := hk'
    obtain ⟨⟨y, y1, y2, y3⟩, f2, f3⟩ := f k hk2
    refine ⟨⟨y, Nat.le_trans y1 hA, by rw [o _ (by omega) (by omega) (by omega) (by omega)]; exact y2, ?_⟩, ?_, fun v hv => ⟨by rw [o _ (by omega) (by omega) (by omega) (by omega)]; exact (f3 v hv).1, fun j hj => by rw [o _ (by omega) (by omega) (by omega) (by omega)]; exact (f3 v hv).2 j hj⟩⟩
    · show up1 (pP_cn (pQ_p q)) (16 + pP_T (pQ_p q)) 1 (8 + k) ≠ 0 → y = up1 (pP_cf (pQ_p q)) (16 + pP_T (pQ_p q)) (pQ_na q) (8 + k)
      rw [up1_n (by omega), up1_n (by omega)]; exact y3
    · show W' (30 + 17 * k + 1) = nI (up1 (pP_cn (pQ_p q)) (16 + pP_T (pQ_p q)) 1 (8 + k))
      rw [up1_n (by omega), o _ (by omega) (by omega) (by omega) (by omega)]; exact f2
  · have ht2 : t < pP_T (pQ_p q) + 1 := ht
    show W' (166 + t) = nI (up1 (pP_cf (pQ_p q)) (16 + pP_T (pQ_p q)) (pQ_na q) (16 + t))
    by_cases z : t = pP_T (pQ_p q)
    · rw [z, up1_s]; exact w2
    · rw [up1_n (by omega), o _ (by omega) (by omega) (by omega) (by omega)]; exact g t (by omega)
theorem rq_W.set {v : Nat} {F : Nat → Int32} (h : rq_W W q) (hk : pq_ok q) (hK : pP_K (pQ_p q) ≠ 0) (hv : v < 3) (hx : x = 3 * (pP_K (pQ_p q) - 1) + v) {to : Nat} (hto : to = 30 + 17 * (pP_K (pQ_p q) - 1) + 2 + 5 * v) (o : ∀ k, k < 182 → ¬ (to ≤ k ∧ k < to + 5) → W' k = W k) (w1 : W' to = 1) (w2 : ∀ j, j < 4 → W' (to + 1 + j) = F j) : rq_W W' (pq_s q x F) := by
  obtain ⟨⟨⟨c1, -, -, -⟩, n1, n2, n3, n4⟩, -⟩ := hk
  obtain ⟨⟨a0, a1, a2, a3, a4⟩, b, c, e, f, g⟩ := h
  refine ⟨⟨(o 0 (by omega) (by omega)).trans a0, (o 1 (by omega) (by omega)).trans a1, (o 2 (by omega) (by omega)).trans a2, (o 3 (by omega) (by omega)).trans a3, (o 4 (by omega) (by omega)).trans a4⟩, fun v' hv' => ?_, fun c' hc' => ?_, fun c' hc' => ?_, fun k hk' => ?_, fun t ht => ?_⟩
  · have hv2 : v' < pP_nv (pQ_p q) := hv'
    rw [o _ (by omega) (by omega), o _ (by omega) (by omega)]; exact b v' hv2
  · have hc2 : c' < pP_ns (pQ_p q) := hc'
    rw [o _ (by omega) (by omega), o _ (by omega) (by omega)]; exact c c' hc2
  · have hc2 : c' < pP_nb (pQ_p q) := hc'
    rw [o _ (by omega) (by omega), o _ (by omega) (by omega)]; exact e c' hc2
  · have hk2 : k < pP_K (pQ_p q) := hk'
    obtain ⟨⟨y, y1, y2, y3⟩, f2, f3⟩ := f k hk2
    refine ⟨⟨y, y1, by rw [o _ (by omega) (by omega)]; exact y2, y3⟩, by rw [o _ (by omega) (by omega)]; exact f2, fun v' hv' => ?_⟩
    show W' (30 + 17 * k + 2 + 5 * v') = am_bI (up1 (pP_g (pQ_p q)) x true (3 * k + v')) ∧ ∀ j, j < 4 → W' (30 + 17 * k + 2 + 5 * v' + 1 + j) = if up1 (pP_g (pQ_p q)) x true (3 * k + v') = true then up1 (pP_sf (pQ_p q)) x F (3 * k + v') j else 0
    by_cases z : 3 * k + v' = x
    · have e1 : k = pP_K (pQ_p q) - 1 := by omega
      have e2 : v' = v := by omega
      have e3 : 30 + 17 * k + 2 + 5 * v' = to := by rw [e1, e2]; exact hto.symm
      rw [z, up1_s, up1_s, e3]
      exact ⟨w1, fun j hj => (w2 j hj).trans (if_pos rfl).symm⟩
    · rw [up1_n z, up1_n z]
      refine ⟨by rw [o _ (by omega) (by omega)]; exact (f3 v' hv').1, fun j hj => by rw [o _ (by omega) (by omega)]; exact (f3 v' hv').2 j hj⟩
  · have ht2 : t < pP_T (pQ_p q) := ht
    rw [o _ (by omega) (by omega)]; exact g t ht2
theorem rq_W.var {w : Nat} {lo hi : Int} (h : rq_W W q) (hk : pq_ok q) (hn : pP_nv (pQ_p q) < 3) (hlh : lo ≤ hi) (o : ∀ k, k < 182 → k ≠ 0 → k ≠ 8 + 2 * pP_nv (pQ_p q) → k ≠ 8 + 2 * pP_nv (pQ_p q) + 1 → W' k = W k) (w1 : W' 0 = nI (pP_nv (pQ_p q) + 1)) (w2 : W' (8 + 2 * pP_nv (pQ_p q)) = iI lo) (w3 : W' (8 + 2 * pP_nv (pQ_p q) + 1) = iI hi) : rq_W W' (pq_v q w lo hi) := by
  obtain ⟨⟨⟨c1, -, -, -⟩, n1, n2, n3, n4⟩, -⟩ := hk
  obtain ⟨⟨a0, a1, a2, a3, a4⟩, b, c, e, f, g⟩ := h
  refine ⟨⟨w1, (o 1 (by omega) (by omega) (by omega) (by omega)).trans a1, (o 2 (by omega) (by omega) (by omega) (by omega)).trans a2, (o 3 (by omega) (by omega) (by omega) (by omega)).trans a3, (o 4 (by omega) (by omega) (by omega) (by omega)).trans a4⟩, fun v hv => ?_, fun c' hc' => ?_, fun c' hc' => ?_, fun k hk' => ?_, fun t ht => ?_⟩
  · have hv2 : v < pP_nv (pQ_p q) + 1 := hv
    show W' (8 + 2 * v) = iI (up1 (pP_lo (pQ_p q)) (pP_nv (pQ_p q)) lo v) ∧ W' (8 + 2 * v + 1) = iI (up1 (pP_lo (pQ_p q)) (pP_nv (pQ_p q)) lo v + ((up1 (pP_wd (pQ_p q)) (pP_nv (pQ_p q)) (hi - lo + 1).toNat v : Nat) : Int) - 1)
    by_cases z : v = pP_nv (pQ_p q)
    · rw [z, up1_s, up1_s]
      refine ⟨w2, w3.trans ?_⟩
      congr 1; omega
    · rw [up1_n z, up1_n z, o _ (by omega) (by omega) (by omega) (by omega), o _ (by omega) (by omega) (by omega) (by omega)]; exact b v (by omega)
  · have hc2 : c' < pP_ns (pQ_p q) := hc'
    rw [o _ (by omega) (by omega) (by omega) (by omega), o _ (by omega) (by omega) (by omega) (by omega)]; exact c c' hc2
  · have hc2 : c' < pP_nb (pQ_p q) := hc'
    rw [o _ (by omega) (by omega) (by omega) (by omega), o _ (by omega) (by omega) (by omega) (by omega)]; exact e c' hc2
  · have hk2 : k < pP_K (pQ_p q) := hk'
    obtain ⟨⟨y, y1, y2, y3⟩, f2, f3⟩ := f k hk2
    exact ⟨⟨y, y1, by rw [o _ (by omega) (by omega) (by omega) (by omega)]; exact y2, y3⟩, by rw [o _ (by omega) (by omega) (by omega) (by omega)]; exact f2, fun v hv => ⟨by rw [o _ (by omega) (by omega) (by omega) (by omega)]; exact (f3 v hv).1, fun j hj => by rw [o _ (by omega) (by omega) (by omega) (by omega)]; exact (f3 v hv).2 j hj⟩⟩
  · have ht2 : t < pP_T (pQ_p q) := ht
    rw [o _ (by omega) (by omega) (by omega) (by omega)]; exact g t ht2
theorem rq_W.cg (h : rq_W W q) (hk : pq_ok q) (o : ∀ k, k < 182 → k ≠ 5 → k ≠ 6 → W' k = W k) : rq_W W' q := by
  obtain ⟨⟨⟨c1, -, -, -⟩, n1, n2, n3, n4⟩, -⟩ := hk
  obtain ⟨⟨a0, a1, a2, a3, a4⟩, b, c, e, f, g⟩ := h
  refine ⟨⟨(o 0 (by omega) (by omega) (by omega)).trans a0, (o 1 (by omega) (by omega) (by omega)).trans a1, (o 2 (by omega) (by omega) (by omega)).trans a2, (o 3 (by omega) (by omega) (by omega)).trans a3, (o 4 (by omega) (by omega) (by omega)).trans a4⟩, fun v hv => ?_, fun c' hc' => ?_, fun c' hc' => ?_, fun k hk' => ?_, fun t ht => ?_⟩
  · rw [o _ (by omega) (by omega) (by omega), o _ (by omega) (by omega) (by omega)]; exact b v hv
  · rw [o _ (by omega) (by omega) (by omega), o _ (by omega) (by omega) (by omega)]; exact c c' hc'
  · rw [o _ (by omega) (by omega) (by omega), o _ (by omega) (by omega) (by omega)]; exact e c' hc'
  · obtain ⟨⟨y, y1, y2, y3⟩, f2, f3⟩ := f k hk'
    exact ⟨⟨y, y1, by rw [o _ (by omega) (by omega) (by omega)]; exact y2, y3⟩, by rw [o _ (by omega) (by omega) (by omega)]; exact f2, fun v hv => ⟨by rw [o _ (by omega) (by omega) (by omega)]; exact (f3 v hv).1, fun j hj => by rw [o _ (by omega) (by omega) (by omega)]; exact (f3 v hv).2 j hj⟩⟩
  · rw [o _ (by omega) (by omega) (by omega)]; exact g t ht
end MROW
