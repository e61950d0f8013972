/-! the pure reading of tokens -/
abbrev pa_F : Type := Nat × Nat
def pa_ix (nm : Nat → Nat) (w : Nat) : Nat → Option Nat
  | 0 => none
  | k + 1 => match pa_ix nm w k with
    | some v => some v
    | none => if nm k = w then some k else none
/-- the variable that a token names -/
def pa_v (nv : Nat) (nm : Nat → Nat) (x : tk_T) : Option Nat := if x.1 = 1 then pa_ix nm x.2.2.2 nv else none
section PARSE
variable (S : Nat → tk_T) (nv : Nat) (nm : Nat → Nat)
def pa_bt (i : Nat) : Bool := (S i).1 == 2 || (pa_v nv nm (S i)).isSome
def pa_tm (i : Nat) (sg : Int32) (f : Nat → Int32) : pa_F ⊕ (Nat × (Nat → Int32)) :=
  if (S i).1 = 2 then
    if 99 < (S i).2.2.2 then .inl (2, (S i).2.1)
    else if (S (i + 1)).1 = 42 then
      match pa_v nv nm (S (i + 2)) with
      | none => .inl (1, (S (i + 2)).2.1)
      | some v => .inr (i + 3, upd f (1 + v) (f (1 + v) + sg * nI (S i).2.2.2))
    else .inr (i + 1, upd f 0 (f 0 + sg * nI (S i).2.2.2))
  else match pa_v nv nm (S i) with
    | none => .inl (1, (S i).2.1)
    | some v => .inr (i + 1, upd f (1 + v) (f (1 + v) + sg))
def pa_no (i : Nat) : pa_F := if pa_bt S nv nm i = true then (2, (S i).2.1) else (1, (S i).2.1)
def pa_sm (side : Int32) : Nat → Nat → Int32 → (Nat → Int32) → pa_F ⊕ (Nat × (Nat → Int32))
  | 0, i, _, _ => .inl (pa_no S nv nm i)
  | r + 1, i, sg, f => match pa_tm S nv nm i sg f with
    | .inl e => .inl e
    | .inr x => if (S x.1).1 = 43 then pa_sm side r (x.1 + 1) side x.2 else if (S x.1).1 = 45 then pa_sm side r (x.1 + 1) (-side) x.2 else .inr x
def pa_cm (k : Nat) : Bool := decide (k = 60 ∨ k = 61 ∨ k = 62)
def pa_am (i : Nat) : pa_F ⊕ (Nat × Int32 × (Nat → Int32)) :=
  match pa_sm S nv nm 1 12 i 1 (fun _ => 0) with
  | .inl e => .inl e
  | .inr x => if pa_cm (S x.1).1 = true then
      match pa_sm S nv nm (-1) 12 (x.1 + 1) (-1) x.2 with
      | .inl e => .inl e
      | .inr y => .inr (y.1, nI (S x.1).1, y.2)
    else .inl (1, (S x.1).2.1)
/-- atoms: how many, their signs, their forms -/
abbrev pa_A : Type := Nat × (Nat → Int32) × (Nat → Nat → Int32)
def pa_ad (A : pa_A) (s : Int32) (h : Nat → Int32) : pa_A := (A.1 + 1, fun a => if a = A.1 then s else A.2.1 a, fun a => if a = A.1 then h else A.2.2 a)
def pa_w (w : Nat) (x : tk_T) : Bool := decide (x.1 = 1 ∧ x.2.2.2 = w)
def pa_cd : Nat → Nat → pa_A → pa_F ⊕ (Nat × pa_A)
  | 0, i, _ => .inl (pa_no S nv nm i)
  | r + 1, i, A => match pa_am S nv nm i with
    | .inl e => .inl e
    | .inr x => if pa_w 1111 (S x.1) = true then pa_cd r (x.1 + 1) (pa_ad A x.2.1 x.2.2) else .inr (x.1, pa_ad A x.2.1 x.2.2)
def pa_sn (low : Int) (i : Nat) : pa_F ⊕ (Nat × Int) :=
  if (S i).1 = 45 then
    if (S (i + 1)).1 = 2 then
      if -((S (i + 1)).2.2.2 : Int) < low ∨ 20 < -((S (i + 1)).2.2.2 : Int) then .inl (2, (S i).2.1) else .inr (i + 2, -((S (i + 1)).2.2.2 : Int))
    else .inl (1, (S (i + 1)).2.1)
  else if (S i).1 = 2 then
    if ((S i).2.2.2 : Int) < low ∨ 20 < ((S i).2.2.2 : Int) then .inl (2, (S i).2.1) else .inr (i + 1, ((S i).2.2.2 : Int))
  else .inl (1, (S i).2.1)
end PARSE
/-- a word of the language -/
def pa_lg (w : Nat) : Bool := decide (w = 249 ∨ w = 1111 ∨ w = 1489 ∨ w = 14006 ∨ w = 16083 ∨ w = 388708 ∨ w = 397838 ∨ w = 10492274)
/-- what was told: names, states, whether another line than var was told, atoms, the plan -/
abbrev pa_Q : Type := (Nat → Nat) × Nat × Bool × Nat × pl_P
abbrev pQ_nm (q : pa_Q) : Nat → Nat := q.1
abbrev pQ_N (q : pa_Q) : Nat := q.2.1
abbrev pQ_ho (q : pa_Q) : Bool := q.2.2.1
abbrev pQ_na (q : pa_Q) : Nat := q.2.2.2.1
abbrev pQ_p (q : pa_Q) : pl_P := q.2.2.2.2
abbrev pQ_A (q : pa_Q) : pa_A := (pQ_na q, pP_sg (pQ_p q), pP_fm (pQ_p q))
def pa_0 : pa_Q := (fun _ => 0, 1, false, 0, 0, 0, 0, 0, 0, fun _ => 0, fun _ => 0, fun _ => 0, fun _ _ => 0, fun _ => 0, fun _ => 0, fun _ => false, fun _ _ => 0)
def up1 {α : Type} (f : Nat → α) (k : Nat) (x : α) : Nat → α := fun i => if i = k then x else f i
/-- one variable more -/
def pq_v (q : pa_Q) (w : Nat) (lo hi : Int) : pa_Q := (up1 (pQ_nm q) (pP_nv (pQ_p q)) w, pQ_N q * (hi - lo + 1).toNat, pQ_ho q, pQ_na q, pP_nv (pQ_p q) + 1, pP_ns (pQ_p q), pP_nb (pQ_p q), pP_K (pQ_p q), pP_T (pQ_p q), up1 (pP_lo (pQ_p q)) (pP_nv (pQ_p q)) lo, up1 (pP_wd (pQ_p q)) (pP_nv (pQ_p q)) (hi - lo + 1).toNat, pP_sg (pQ_p q), pP_fm (pQ_p q), pP_cf (pQ_p q), pP_cn (pQ_p q), pP_g (pQ_p q), pP_sf (pQ_p q))
/-- new numbers of lines, new atoms, a new condition -/
def pq_c (q : pa_Q) (ns nb K T : Nat) (A : pa_A) (cf cn : Nat → Nat) : pa_Q := (pQ_nm q, pQ_N q, true, A.1, pP_nv (pQ_p q), ns, nb, K, T, pP_lo (pQ_p q), pP_wd (pQ_p q), A.2.1, A.2.2, cf, cn, pP_g (pQ_p q), pP_sf (pQ_p q))
def pq_s (q : pa_Q) (x : Nat) (f : Nat → Int32) : pa_Q := (pQ_nm q, pQ_N q, pQ_ho q, pQ_na q, pP_nv (pQ_p q), pP_ns (pQ_p q), pP_nb (pQ_p q), pP_K (pQ_p q), pP_T (pQ_p q), pP_lo (pQ_p q), pP_wd (pQ_p q), pP_sg (pQ_p q), pP_fm (pQ_p q), pP_cf (pQ_p q), pP_cn (pQ_p q), up1 (pP_g (pQ_p q)) x true, up1 (pP_sf (pQ_p q)) x f)
section LINES
variable (S : Nat → tk_T) (q : pa_Q) (i : Nat)
def pl_var : pa_F ⊕ (Nat × pa_Q) :=
  if pQ_ho q = true then .inl (1, (S i).2.1)
  else if 3 ≤ pP_nv (pQ_p q) then .inl (2, (S i).2.1)
  else if ¬ (S (i + 1)).1 = 1 ∨ pa_lg (S (i + 1)).2.2.2 = true then .inl (1, (S (i + 1)).2.1)
  else if (pa_v (pP_nv (pQ_p q)) (pQ_nm q) (S (i + 1))).isSome = true then .inl (3, (S (i + 1)).2.1)
  else match pa_sn S (-20) (i + 2) with
    | .inl e => .inl e
    | .inr x => match pa_sn S x.2 x.1 with
      | .inl e => .inl e
      | .inr y => if 600 < pQ_N q * (y.2 - x.2 + 1).toNat then .inl (2, (S x.1).2.1) else .inr (y.1, pq_v q (S (i + 1)).2.2.2 x.2 y.2)
/-- a condition at j into the slot c -/
def pl_con (j c ns nb K T : Nat) : pa_F ⊕ (Nat × pa_Q) :=
  match pa_cd S (pP_nv (pQ_p q)) (pQ_nm q) 8 j (pQ_A q) with
  | .inl e => .inl e
  | .inr x => .inr (x.1, pq_c q ns nb K T x.2 (up1 (pP_cf (pQ_p q)) c (pQ_na q)) (up1 (pP_cn (pQ_p q)) c (x.2.1 - pQ_na q)))
def pl_start : pa_F ⊕ (Nat × pa_Q) := if 4 ≤ pP_ns (pQ_p q) then .inl (2, (S i).2.1) else pl_con S q (i + 1) (pP_ns (pQ_p q)) (pP_ns (pQ_p q) + 1) (pP_nb (pQ_p q)) (pP_K (pQ_p q)) (pP_T (pQ_p q))
def pl_bad : pa_F ⊕ (Nat × pa_Q) := if 4 ≤ pP_nb (pQ_p q) then .inl (2, (S i).2.1) else pl_con S q (i + 1) (4 + pP_nb (pQ_p q)) (pP_ns (pQ_p q)) (pP_nb (pQ_p q) + 1) (pP_K (pQ_p q)) (pP_T (pQ_p q))
def pl_step : pa_F ⊕ (Nat × pa_Q) := if 8 ≤ pP_K (pQ_p q) then .inl (2, (S i).2.1)
  else if pa_w 249 (S (i + 1)) = true then pl_con S q (i + 2) (8 + pP_K (pQ_p q)) (pP_ns (pQ_p q)) (pP_nb (pQ_p q)) (pP_K (pQ_p q) + 1) (pP_T (pQ_p q))
  else .inr (i + 1, pq_c q (pP_ns (pQ_p q)) (pP_nb (pQ_p q)) (pP_K (pQ_p q) + 1) (pP_T (pQ_p q)) (pQ_A q) (pP_cf (pQ_p q)) (pP_cn (pQ_p q)))
def pl_set : pa_F ⊕ (Nat × pa_Q) := if pP_K (pQ_p q) = 0 then .inl (1, (S i).2.1)
  else match pa_v (pP_nv (pQ_p q)) (pQ_nm q) (S (i + 1)) with
    | none => .inl (1, (S (i + 1)).2.1)
    | some v => if pP_g (pQ_p q) (3 * (pP_K (pQ_p q) - 1) + v) = true then .inl (3, (S (i + 1)).2.1)
      else if ¬ (S (i + 2)).1 = 61 then .inl (1, (S (i + 2)).2.1)
      else match pa_sm S (pP_nv (pQ_p q)) (pQ_nm q) 1 12 (i + 3) 1 (fun _ => 0) with
        | .inl e => .inl e
        | .inr x => .inr (x.1, pq_s q (3 * (pP_K (pQ_p q) - 1) + v) x.2)
def pl_test : pa_F ⊕ (Nat × pa_Q) := if 16 ≤ pP_T (pQ_p q) then .inl (2, (S i).2.1)
  else match pa_am S (pP_nv (pQ_p q)) (pQ_nm q) (i + 1) with
    | .inl e => .inl e
    | .inr x => .inr (x.1, pq_c q (pP_ns (pQ_p q)) (pP_nb (pQ_p q)) (pP_K (pQ_p q)) (pP_T (pQ_p q) + 1) (pa_ad (pQ_A q) x.2.1 x.2.2) (up1 (pP_cf (pQ_p q)) (16 + pP_T (pQ_p q)) (pQ_na q)) (up1 (pP_cn (pQ_p q)) (16 + pP_T (pQ_p q)) 1))
def pl_line : pa_F ⊕ (Nat × pa_Q) :=
  if pa_w 16083 (S i) = true then pl_var S q i
  else if pa_w 10492274 (S i) = true then pl_start S q i
  else if pa_w 1489 (S i) = true then pl_bad S q i
  else if pa_w 388708 (S i) = true then pl_step S q i
  else if pa_w 14006 (S i) = true then pl_set S q i
  else if pa_w 397838 (S i) = true then pl_test S q i
  else .inl (1, (S i).2.1)
def pl_ln : pa_F ⊕ (Nat × pa_Q) := match pl_line S q i with
  | .inl e => .inl e
  | .inr x => if (S x.1).1 = 59 then .inr (x.1 + 1, x.2) else .inl (1, (S x.1).2.1)
end LINES
/-- a text: its lines, what it told -/
def pl_tx (S : Nat → tk_T) : Nat → Nat → pa_Q → Nat → pa_F ⊕ (Nat × pa_Q)
  | 0, _, q, l => .inr (l, q)
  | f + 1, i, q, l => if (S i).1 = 0 then .inr (l, q) else match pl_ln S q i with
    | .inl e => .inl e
    | .inr x => pl_tx S f x.1 x.2 (l + 1)
section PGT
variable {S : Nat → tk_T} {nv : Nat} {nm : Nat → Nat}
theorem pa_tm_no {i : Nat} (h : pa_bt S nv nm i = false) (sg : Int32) (f : Nat → Int32) : pa_tm S nv nm i sg f = .inl (1, (S i).2.1) := by
  unfold pa_bt at h
  rw [Bool.or_eq_false_iff] at h
  have h1 : ¬ (S i).1 = 2 := fun z => by rw [z] at h; exact absurd h.1 (by decide)
  have h2 : pa_v nv nm (S i) = none := by
    cases e : pa_v nv nm (S i) with
    | none => rfl
    | some v => rw [e] at h; exact absurd h.2 (by simp)
  unfold pa_tm
  rw [if_neg h1, h2]
theorem pa_tm_gt {i : Nat} {sg : Int32} {f : Nat → Int32} {x : Nat × (Nat → Int32)} (h : pa_tm S nv nm i sg f = .inr x) : i < x.1 ∧ pa_bt S nv nm i = true := by
  constructor
  · unfold pa_tm at h
    split at h
    · split at h
      · cases h
      · split at h
        · split at h
          · cases h
          · cases h; exact Nat.lt_add_of_pos_right (by decide)
        · cases h; exact Nat.lt_succ_self _
    · split at h
      · cases h
      · cases h; exact Nat.lt_succ_self _
  · cases e : pa_bt S nv nm i with
    | true => rfl
    | false => rw [pa_tm_no e] at h; cases h
theorem pa_sm_gt {side : Int32} : ∀ (r : Nat) {i : Nat} {sg : Int32} {f : Nat → Int32} {x : Nat × (Nat → Int32)}, pa_sm S nv nm side r i sg f = .inr x → i < x.1 := by
  intro r
  induction r with
  | zero => intro i sg f x h; unfold pa_sm at h; cases h
  | succ r ih =>
    intro i sg f x h
    unfold pa_sm at h
    split at h
    · cases h
    · rename_i y hy
      have g := (pa_tm_gt hy).1
      split at h
      · have := ih h; omega
      · split at h
        · have := ih h; omega
        · cases h; exact g
theorem pa_am_gt {i : Nat} {x : Nat × Int32 × (Nat → Int32)} (h : pa_am S nv nm i = .inr x) : i < x.1 ∧ (x.2.1 = 60 ∨ x.2.1 = 61 ∨ x.2.1 = 62) := by
  unfold pa_am at h
  split at h
  · cases h
  · rename_i y hy
    have g := pa_sm_gt 12 hy
    split at h
    · rename_i hc
      split at h
      · cases h
      · rename_i z hz
        have g2 := pa_sm_gt 12 hz
        cases h
        refine ⟨by show i < z.1; omega, ?_⟩
        unfold pa_cm at hc
        rcases of_decide_eq_true hc with e | e | e
        · left; show nI (S y.1).1 = 60; rw [e]; rfl
        · right; left; show nI (S y.1).1 = 61; rw [e]; rfl
        · right; right; show nI (S y.1).1 = 62; rw [e]; rfl
    · cases h
/-- atoms that were there stay; all are atoms -/
def pa_le (A B : pa_A) : Prop := A.1 ≤ B.1 ∧ (∀ a, a < A.1 → B.2.1 a = A.2.1 a ∧ B.2.2 a = A.2.2 a) ∧ ∀ a, A.1 ≤ a → a < B.1 → B.2.1 a = 60 ∨ B.2.1 a = 61 ∨ B.2.1 a = 62
theorem pa_le.ad {A B : pa_A} (h : pa_le A B) {s : Int32} (hs : s = 60 ∨ s = 61 ∨ s = 62) (f : Nat → Int32) : pa_le A (pa_ad B s f) := by
  refine ⟨Nat.le_succ_of_le h.1, fun a ha => ?_, fun a h1 h2 => ?_⟩
  · have := h.1
    show (if a = B.1 then s else B.2.1 a) = _ ∧ (if a = B.1 then f else B.2.2 a) = _
    rw [if_neg (by omega), if_neg (by omega)]; exact h.2.1 a ha
  · show (if a = B.1 then s else B.2.1 a) = 60 ∨ (if a = B.1 then s else B.2.1 a) = 61 ∨ (if a = B.1 then s else B.2.1 a) = 62
    by_cases q : a = B.1
    · rw [if_pos q]; exact hs
    · rw [if_neg q]
      have : a < B.1 + 1 := h2
      exact h.2.2 a h1 (by omega)
theorem pa_le.rf {A : pa_A} : pa_le A A := ⟨Nat.le_refl _, fun _ _ => ⟨rfl, rfl⟩, fun a h1 h2 => absurd h2 (by omega)⟩
theorem pa_cd_gt {A0 : pa_A} : ∀ (r : Nat) {i : Nat} {A : pa_A} {x : Nat × pa_A}, pa_cd S nv nm r i A = .inr x → pa_le A0 A → i < x.1 ∧ x.2.1 ≤ A.1 + r ∧ A.1 < x.2.1 ∧ pa_le A0 x.2 := by
  intro r
  induction r with
  | zero => intro i A x h; unfold pa_cd at h; cases h
  | succ r ih =>
    intro i A x h hA
    unfold pa_cd at h
    split at h
    · cases h
    · rename_i y hy
      obtain ⟨g, gs⟩ := pa_am_gt hy
      split at h
      · have := ih h (hA.ad gs _)
        obtain ⟨t1, t2, t3, t4⟩ := this
        have e : (pa_ad A y.2.1 y.2.2).1 = A.1 + 1 := rfl
        rw [e] at t2 t3
        exact ⟨by omega, by omega, by omega, t4⟩
      · cases h
        exact ⟨g, by show A.1 + 1 ≤ A.1 + (r + 1); omega, Nat.lt_succ_self _, hA.ad gs _⟩
theorem pa_sn_gt {low : Int} {i : Nat} {x : Nat × Int} (h : pa_sn S low i = .inr x) : i < x.1 ∧ low ≤ x.2 ∧ x.2 ≤ 20 := by
  unfold pa_sn at h
  split at h
  · split at h
    · split at h
      · cases h
      · rename_i c
        cases h
        exact ⟨Nat.lt_add_of_pos_right (by decide), by show low ≤ -((S (i + 1)).2.2.2 : Int); omega, by show -((S (i + 1)).2.2.2 : Int) ≤ 20; omega⟩
    · cases h
  · split at h
    · split at h
      · cases h
      · rename_i c
        cases h
        exact ⟨Nat.lt_succ_self _, by show low ≤ ((S i).2.2.2 : Int); omega, by show ((S i).2.2.2 : Int) ≤ 20; omega⟩
    · cases h
end PGT
