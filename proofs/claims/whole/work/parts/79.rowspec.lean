/-! rows of a tree as values: paths, masks, shortening -/
def rw_cd (b : Bool) (t : Nat) : Nat := if b = true then 100 + t else t
def rw_ok (p : List Nat) : Prop := (∀ c, c ∈ p → c % 100 < 16 ∧ c < 200) ∧ p.Pairwise (fun a b => a % 100 ≠ b % 100)
def tr_sb (nd : Nat → Nat → Int32) : Nat → List Nat → Int32 → Nat → Nat → Prop
  | 0, _, _, _, _ => False
  | f + 1, p, par, i, e => nd i 5 = nI p.length ∧ nd i 6 = par ∧ (((nd i 0 = 0 ∨ nd i 0 = 1) ∧ e = i + 1) ∨ (nd i 0 = 2 ∧ ∃ t m, t < 16 ∧ nd i 1 = nI t ∧ nd i 2 = nI (i + 1) ∧ nd i 3 = nI m ∧ (∀ c, c ∈ p → c % 100 ≠ t) ∧ tr_sb nd f (p ++ [100 + t]) (nI i) (i + 1) m ∧ tr_sb nd f (p ++ [t]) (nI i) m e))
theorem tr_sb.lt {nd : Nat → Nat → Int32} : ∀ (f : Nat) {p : List Nat} {par : Int32} {i e : Nat}, tr_sb nd f p par i e → i < e := by
  intro f
  induction f with
  | zero => intro p par i e h; exact absurd h id
  | succ f ih =>
    intro p par i e h
    obtain ⟨-, -, h⟩ := h
    rcases h with ⟨-, h⟩ | ⟨-, t, m, -, -, -, -, -, h1, h2⟩
    · omega
    · have := ih h1; have := ih h2; omega
theorem tr_sb.cg {nd nd' : Nat → Nat → Int32} : ∀ (f : Nat) {p : List Nat} {par : Int32} {i e : Nat}, tr_sb nd f p par i e → (∀ j, i ≤ j → j < e → ∀ g, nd' j g = nd j g) → tr_sb nd' f p par i e := by
  intro f
  induction f with
  | zero => intro p par i e h; exact absurd h id
  | succ f ih =>
    intro p par i e h hc
    have hlt := h.lt
    obtain ⟨h1, h2, h⟩ := h
    refine ⟨by rw [hc i (Nat.le_refl _) hlt]; exact h1, by rw [hc i (Nat.le_refl _) hlt]; exact h2, ?_⟩
    rcases h with ⟨h3, h4⟩ | ⟨h3, t, m, h4, h5, h6, h7, h8, h9, h10⟩
    · exact Or.inl ⟨by rw [hc i (Nat.le_refl _) hlt]; exact h3, h4⟩
    · have l1 := h9.lt
      have l2 := h10.lt
      exact Or.inr ⟨by rw [hc i (Nat.le_refl _) hlt]; exact h3, t, m, h4, by rw [hc i (Nat.le_refl _) hlt]; exact h5, by rw [hc i (Nat.le_refl _) hlt]; exact h6, by rw [hc i (Nat.le_refl _) hlt]; exact h7, h8, ih h9 (fun j a b g => hc j (by omega) (by omega) g), ih h10 (fun j a b g => hc j (by omega) b g)⟩
theorem ft_F_sb {P q T : Nat} {fs sn : Nat → Nat} {bit : Nat → Nat → Bool} {al : Nat → Bool} {care : Bool} (hT : T ≤ 16) : ∀ (f : Nat) (S : Nat → Bool) (par : Option Nat) (sd : Bool) (s s' : ft_Sg) (pa : List Nat), ft_F P q T fs sn bit al care f S par sd s = some s' → (∀ z, par = some z → z < s.2.2.1) → ft_dp s.2.2.2 par = nI pa.length → pa.length + f = 17 → (∀ c, c ∈ pa → ∀ i, i < P → S i = true → bit i (c % 100) = decide (100 ≤ c)) → tr_sb s'.2.2.2 f pa (ft_pI par) s.2.2.1 s'.2.2.1 := by
  intro f
  induction f with
  | zero => intro S par sd s s' pa h; cases h
  | succ f ih =>
    intro S par sd s s' pa h hp hd hf hS
    obtain ⟨g0, b0, n, nd0⟩ := s
    dsimp only at hp hd ⊢
    unfold ft_F at h
    dsimp only at h
    split at h
    · split at h
      · cases h
      · rename_i p hb
        split at h
        · cases h
        · rename_i s2 h2
          obtain ⟨hpT, -, hc⟩ := ft_bst_spec _ _ _ (t := p.1) (c := p.2) hb
          obtain ⟨a1, -⟩ := ft_F_n _ _ _ _ _ _ h2
          obtain ⟨b1, -⟩ := ft_F_n _ _ _ _ _ _ h
          simp only at a1
          obtain ⟨nd1, hnd1⟩ : ∃ nd1, nd1 = ft_nw (ft_sp nd0 par sd n) n 2 (nI p.1) (nI (am_cn S P)) (ft_dp nd0 par) (ft_pI par) := ⟨_, rfl⟩
          rw [← hnd1] at h2
          have d1 : nd1 n 5 = nI pa.length := by rw [hnd1]; simp [ft_nw]; exact hd
          have k1 : nd1 n 0 = 2 := by rw [hnd1]; simp [ft_nw]
          have t1 : nd1 n 1 = nI p.1 := by rw [hnd1]; simp [ft_nw]
          have p1 : nd1 n 6 = ft_pI par := by rw [hnd1]; simp [ft_nw]
          have hp2 : ∀ z, some n = some z → z < n + 1 := fun z hz => by injection hz with hz; omega
          obtain ⟨u1, -, u3⟩ := ft_F_tr hT _ _ _ _ _ _ (pa.length + 1) h2 hp2 (by show nd1 n 5 + 1 = _; rw [d1, nI_1]) (by omega)
          simp only at u1 u3
          have e2 : ∀ i g, i < n + 1 → ¬ (i = n ∧ g = 2) → s2.2.2.2 i g = nd1 i g := fun i g hi hg => by
            rw [u1 i hi g]; show ft_st nd1 n 2 _ i g = _; unfold ft_st; rw [if_neg hg]
          have e22 : s2.2.2.2 n 2 = nI (n + 1) := by
            rw [u1 n (by omega) 2]; show ft_st nd1 n 2 _ n 2 = _; unfold ft_st; rw [if_pos ⟨rfl, rfl⟩]
          have hp3 : ∀ z, some n = some z → z < s2.2.2.1 := fun z hz => by injection hz with hz; omega
          have hd3 : ft_dp s2.2.2.2 (some n) = nI (pa.length + 1) := by show s2.2.2.2 n 5 + 1 = _; rw [e2 n 5 (by omega) (by simp), d1, nI_1]
          obtain ⟨v1, -, v3⟩ := ft_F_tr hT _ _ _ _ _ _ (pa.length + 1) h hp3 hd3 (by omega)
          have e3 : ∀ i g, i < s2.2.2.1 → ¬ (i = n ∧ g = 3) → s'.2.2.2 i g = s2.2.2.2 i g := fun i g hi hg => by
            rw [v1 i hi g]; show ft_st s2.2.2.2 n 3 _ i g = _; unfold ft_st; rw [if_neg hg]
          have e33 : s'.2.2.2 n 3 = nI s2.2.2.1 := by
            rw [v1 n (by omega) 3]; show ft_st s2.2.2.2 n 3 _ n 3 = _; unfold ft_st; rw [if_pos ⟨rfl, rfl⟩]
          obtain ⟨c1, c2⟩ := ft_cost_some hc
          have hne : ∀ c, c ∈ pa → c % 100 ≠ p.1 := fun c hcp e => by
            have hk := hS c hcp
            rw [e] at hk
            by_cases c100 : 100 ≤ c
            · have : am_cn (fun i => S i && !bit i p.1) P = 0 := am_cn_zero' (fun i hi => by
                cases hs : S i
                · rfl
                · rw [hk i hi hs]; simp [c100])
              omega
            · have : am_cn (fun i => S i && bit i p.1) P = 0 := am_cn_zero' (fun i hi => by
                cases hs : S i
                · rfl
                · rw [hk i hi hs]; simp [c100])
              omega
          have r1 := ih _ _ _ _ _ (pa ++ [100 + p.1]) h2 hp2 (by show nd1 n 5 + 1 = _; rw [d1, nI_1]; simp) (by simp; omega) (fun c hcp i hi hs => by
            simp only [Bool.and_eq_true] at hs
            rcases List.mem_append.mp hcp with z | z
            · exact hS c z i hi hs.1
            · have : c = 100 + p.1 := by simpa using z
              rw [this, show (100 + p.1) % 100 = p.1 by omega, hs.2]
              simp)
          have r2 := ih _ _ _ _ _ (pa ++ [p.1]) h hp3 (by rw [hd3]; simp) (by simp; omega) (fun c hcp i hi hs => by
            simp only [Bool.and_eq_true] at hs
            rcases List.mem_append.mp hcp with z | z
            · exact hS c z i hi hs.1
            · have : c = p.1 := by simpa using z
              rw [this, show p.1 % 100 = p.1 by omega]
              have h3 := hs.2
              simp at h3
              rw [h3]
              simp; omega)
          refine ⟨by rw [e3 n 5 (by omega) (by simp), e2 n 5 (by omega) (by simp)]; exact d1, by rw [e3 n 6 (by omega) (by simp), e2 n 6 (by omega) (by simp)]; exact p1, Or.inr ⟨by rw [e3 n 0 (by omega) (by simp), e2 n 0 (by omega) (by simp)]; exact k1, p.1, s2.2.2.1, by omega, by rw [e3 n 1 (by omega) (by simp), e2 n 1 (by omega) (by simp)]; exact t1, by rw [e3 n 2 (by omega) (by simp)]; exact e22, e33, hne, ?_, r2⟩⟩
          exact r1.cg _ (fun j a b g => e3 j g b (by have a' : n + 1 ≤ j := a; omega))
    · rename_i hk
      injection h with h
      subst h
      simp only
      refine ⟨by simp [ft_nw]; exact hd, by simp [ft_nw], Or.inl ⟨?_, rfl⟩⟩
      have e0 : ft_nw (ft_sp nd0 par sd n) n (ft_kd care (ft_no P S b0) (ft_no P S g0)) (-2) (nI (am_cn S P)) (ft_dp nd0 par) (ft_pI par) n 0 = ft_kd care (ft_no P S b0) (ft_no P S g0) := by simp [ft_nw]
      rw [e0]
      rcases ft_kd_cases care (ft_no P S b0) (ft_no P S g0) with z | z | z
      · exact Or.inl z
      · exact Or.inr z
      · exact absurd z hk
theorem lr_fit_sb {T : Nat} {tb : Nat → Int32} {al : Nat → Bool} {care : Bool} {x : sm_T} {s : ft_Sg} (hT : T ≤ 16) (h : lr_fit T tb al care x = some s) : tr_sb s.2.2.2 17 [] (-1) 0 s.2.2.1 :=
  ft_F_sb hT 17 _ _ _ _ s [] h (fun z hz => by cases hz) rfl rfl (fun c hc => by cases hc)
/-! rows -/
def tr_rw (nd : Nat → Nat → Int32) : Nat → List Nat → Nat → List (List Nat)
  | 0, _, _ => []
  | f + 1, p, i => if nd i 0 = 2 then tr_rw nd f (p ++ [100 + (nd i 1).toNatClampNeg]) (nd i 2).toNatClampNeg ++ tr_rw nd f (p ++ [(nd i 1).toNatClampNeg]) (nd i 3).toNatClampNeg else if nd i 0 = 1 then [p] else []
def tr_rl (nd : Nat → Nat → Int32) (pt : Nat → List Nat) (i : Nat) : Nat → List (List Nat)
  | 0 => []
  | n + 1 => tr_rl nd pt i n ++ (if nd (i + n) 0 = 1 then [pt (i + n)] else [])
theorem tr_rl_add (nd : Nat → Nat → Int32) (pt : Nat → List Nat) (i a b : Nat) : tr_rl nd pt i (a + b) = tr_rl nd pt i a ++ tr_rl nd pt (i + a) b := by
  induction b with
  | zero => simp [tr_rl]
  | succ b ih =>
    show tr_rl nd pt i (a + b) ++ _ = tr_rl nd pt i a ++ (tr_rl nd pt (i + a) b ++ _)
    rw [ih, List.append_assoc, Nat.add_assoc]; rfl
theorem tr_rl_cg {nd : Nat → Nat → Int32} {pt pt' : Nat → List Nat} {i n : Nat} (h : ∀ j, i ≤ j → j < i + n → pt j = pt' j) : tr_rl nd pt i n = tr_rl nd pt' i n := by
  induction n with
  | zero => rfl
  | succ n ih =>
    show tr_rl nd pt i n ++ _ = tr_rl nd pt' i n ++ _
    rw [ih (fun j a b => h j a (by omega)), h (i + n) (by omega) (by omega)]
def tr_pt (nd : Nat → Nat → Int32) (pt : Nat → List Nat) (i e : Nat) : Prop := (∀ j, i < j → j < e → ∃ (j' t : Nat) (b : Bool), i ≤ j' ∧ j' < j ∧ nd j 6 = nI j' ∧ t < 16 ∧ nd j' 1 = nI t ∧ ((nd j' 2 = nI j) ↔ b = true) ∧ pt j = pt j' ++ [rw_cd b t]) ∧ ∀ j, i ≤ j → j < e → nd j 5 = nI (pt j).length ∧ (pt j).length ≤ 16 ∧ rw_ok (pt j)
theorem rw_ok_snoc {p : List Nat} {c t : Nat} (h : rw_ok p) (hc : c % 100 = t) (ht : t < 16) (hc2 : c < 200) (hne : ∀ c', c' ∈ p → c' % 100 ≠ t) : rw_ok (p ++ [c]) := by
  refine ⟨fun z hz => ?_, ?_⟩
  · rcases List.mem_append.mp hz with a | a
    · exact h.1 z a
    · have : z = c := by simpa using a
      rw [this, hc]; exact ⟨ht, hc2⟩
  · rw [List.pairwise_append]
    refine ⟨h.2, by simp, fun a ha b hb => ?_⟩
    have : b = c := by simpa using hb
    rw [this, hc]; exact hne a ha
theorem tr_sb_pt {nd : Nat → Nat → Int32} : ∀ (f : Nat) (p : List Nat) (par : Int32) (i e : Nat), tr_sb nd f p par i e → e ≤ 400 → rw_ok p → p.length + f ≤ 17 → 2 * (tr_rw nd f p i).length ≤ e - i + 1 ∧ ∃ pt : Nat → List Nat, pt i = p ∧ tr_pt nd pt i e ∧ tr_rl nd pt i (e - i) = tr_rw nd f p i := by
  intro f
  induction f with
  | zero => intro p par i e h; exact absurd h id
  | succ f ih =>
    intro p par i e h he hok hlen
    have hlt := h.lt
    obtain ⟨h1, h2, h⟩ := h
    rcases h with ⟨h3, h4⟩ | ⟨h3, t, m, h4, h5, h6, h7, h8, h9, h10⟩
    · subst h4
      have hk : ¬ nd i 0 = 2 := by rcases h3 with z | z <;> rw [z] <;> decide
      have er : tr_rw nd (f + 1) p i = if nd i 0 = 1 then [p] else [] := by unfold tr_rw; rw [if_neg hk]
      refine ⟨?_, fun _ => p, rfl, ⟨fun j a b => by omega, fun j a b => ?_⟩, ?_⟩
      · rw [er]; split <;> simp <;> omega
      · have : j = i := by omega
        rw [this]; exact ⟨h1, (by show p.length ≤ 16; omega), hok⟩
      · rw [er, show i + 1 - i = 1 by omega]
        show [] ++ (if nd (i + 0) 0 = 1 then _ else _) = _
        rw [List.nil_append]; rfl
    · have l1 := h9.lt
      have l2 := h10.lt
      obtain ⟨a1, pt1, a2, a3, a4⟩ := ih _ _ _ _ h9 (by omega) (rw_ok_snoc hok (show (100 + t) % 100 = t by omega) h4 (by omega) h8) (by simp; omega)
      obtain ⟨b1, pt2, b2, b3, b4⟩ := ih _ _ _ _ h10 he (rw_ok_snoc hok (show t % 100 = t by omega) h4 (by omega) h8) (by simp; omega)
      have er : tr_rw nd (f + 1) p i = tr_rw nd f (p ++ [100 + t]) (i + 1) ++ tr_rw nd f (p ++ [t]) m := by
        show (if nd i 0 = 2 then _ else _) = _
        rw [if_pos h3, h5, h6, h7, nI_clamp (by omega), nI_clamp (by omega), nI_clamp (by omega)]
      refine ⟨by rw [er, List.length_append]; omega, fun j => if j = i then p else if j < m then pt1 j else pt2 j, if_pos rfl, ⟨fun j c1 c2 => ?_, fun j c1 c2 => ?_⟩, ?_⟩
      · dsimp only
        rw [if_neg (by omega)]
        by_cases c3 : j < m
        · rw [if_pos c3]
          by_cases c4 : j = i + 1
          · subst c4
            have := h9
            refine ⟨i, t, true, Nat.le_refl _, by omega, ?_, h4, h5, ⟨fun _ => rfl, fun _ => h6⟩, ?_⟩
            · cases f with
              | zero => exact absurd this id
              | succ f => exact this.2.1
            · rw [if_pos rfl, a2]; rfl
          · obtain ⟨j', t', b', d1, d2, d3, d4, d5, d6, d7⟩ := a3.1 j (by omega) c3
            exact ⟨j', t', b', by omega, d2, d3, d4, d5, d6, by rw [if_neg (by omega), if_pos (by omega)]; exact d7⟩
        · rw [if_neg c3]
          by_cases c4 : j = m
          · subst c4
            have := h10
            refine ⟨i, t, false, Nat.le_refl _, by omega, ?_, h4, h5, ⟨fun z => ?_, fun z => by cases z⟩, ?_⟩
            · cases f with
              | zero => exact absurd this id
              | succ f => exact this.2.1
            · rw [h6] at z
              have := nI_inj (by omega) (by omega) z
              omega
            · rw [if_pos rfl, b2]; rfl
          · obtain ⟨j', t', b', d1, d2, d3, d4, d5, d6, d7⟩ := b3.1 j (by omega) c2
            exact ⟨j', t', b', by omega, d2, d3, d4, d5, d6, by rw [if_neg (by omega), if_neg (by omega)]; exact d7⟩
      · dsimp only
        by_cases c3 : j = i
        · rw [if_pos c3, c3]; exact ⟨h1, by omega, hok⟩
        · rw [if_neg c3]
          by_cases c4 : j < m
          · rw [if_pos c4]; exact a3.2 j (by omega) c4
          · rw [if_neg c4]; exact b3.2 j (by omega) c2
      · rw [er, ← a4, ← b4, show e - i = 1 + ((m - (i + 1)) + (e - m)) by omega, tr_rl_add, tr_rl_add, show i + 1 + (m - (i + 1)) = m by omega]
        have e1 : tr_rl nd (fun j => if j = i then p else if j < m then pt1 j else pt2 j) i 1 = [] := by
          show [] ++ (if nd (i + 0) 0 = 1 then _ else _) = _
          rw [Nat.add_zero, if_neg (by rw [h3]; decide)]; rfl
        rw [e1, List.nil_append]
        congr 1
        · exact tr_rl_cg (fun j a b => by (try dsimp only); rw [if_neg (by omega), if_pos (by omega)])
        · exact tr_rl_cg (fun j a b => by (try dsimp only); rw [if_neg (by omega), if_neg (by omega)])
/-! masks of rows -/
theorem b_one {t i : Nat} (ht : t < 32) (hi : i < 32) : bt (1 <<< (nI t &&& 31)) i = decide (i = t) := by
  rw [b_shl t ht 1 hi, b_1]
  by_cases c : i = t
  · subst c; simp
  · by_cases c2 : t ≤ i
    · have : ¬ i - t = 0 := by omega
      simp [c, this]
    · simp [c, c2]
def rw_m (p : Nat → Bool) : List Nat → Int32
  | [] => 0
  | c :: r => (if p c = true then 1 <<< (nI (c % 100) &&& 31) else 0) ||| rw_m p r
theorem rw_m_bt {p : Nat → Bool} {i : Nat} (hi : i < 32) : ∀ (row : List Nat), (∀ c, c ∈ row → c % 100 < 16 ∧ c < 200) → (bt (rw_m p row) i = true ↔ ∃ c, c ∈ row ∧ p c = true ∧ c % 100 = i) := by
  intro row
  induction row with
  | nil => intro _; rw [rw_m, b_0]; simp
  | cons c r ih =>
    intro h
    rw [rw_m, b_or, Bool.or_eq_true, ih (fun z hz => h z (List.mem_cons_of_mem _ hz))]
    have hc := (h c List.mem_cons_self).1
    constructor
    · rintro (z | ⟨z, z1, z2⟩)
      · by_cases hp : p c = true
        · rw [if_pos hp, b_one (by omega) hi] at z
          exact ⟨c, List.mem_cons_self, hp, by have := of_decide_eq_true z; omega⟩
        · rw [if_neg hp, b_0] at z; cases z
      · exact ⟨z, List.mem_cons_of_mem _ z1, z2⟩
    · rintro ⟨z, z1, z2, z3⟩
      rcases List.mem_cons.mp z1 with e | e
      · subst e
        left
        rw [if_pos z2, b_one (by omega) hi]
        exact decide_eq_true z3.symm
      · exact Or.inr ⟨z, e, z2, z3⟩
theorem b_eq {x y : Int32} (h : ∀ i, i < 32 → (bt x i = true ↔ bt y i = true)) : x = y := b_ext (fun i hi => by
  have := h i hi
  cases e1 : bt x i <;> cases e2 : bt y i <;> simp_all)
theorem rw_uq : ∀ {row : List Nat}, row.Pairwise (fun a b => a % 100 ≠ b % 100) → ∀ c c', c ∈ row → c' ∈ row → c % 100 = c' % 100 → c = c' := by
  intro row
  induction row with
  | nil => intro _ c c' h; cases h
  | cons a r ih =>
    intro hp c c' h1 h2 e
    rw [List.pairwise_cons] at hp
    rcases List.mem_cons.mp h1 with z | z
    · rcases List.mem_cons.mp h2 with y | y
      · rw [z, y]
      · subst z; exact absurd e (hp.1 c' y)
    · rcases List.mem_cons.mp h2 with y | y
      · subst y; exact absurd e.symm (hp.1 c z)
      · exact ih hp.2 c c' z y e
def rw_g : Nat → Bool := fun c => decide (100 ≤ c)
def rw_l : Nat → Bool := fun c => decide (c < 100)
def rw_a : Nat → Bool := fun _ => true
def rw_h (x : Int32) (row : List Nat) : Bool := row.all (fun c => bt x (c % 100) == decide (100 ≤ c))
theorem rw_h_iff {x : Int32} {row : List Nat} : rw_h x row = true ↔ ∀ c, c ∈ row → bt x (c % 100) = decide (100 ≤ c) := by
  unfold rw_h
  rw [List.all_eq_true]
  exact ⟨fun h c hc => eq_of_beq (h c hc), fun h c hc => by rw [h c hc]; exact beq_self_eq_true _⟩
theorem rw_h_cl {x : Int32} {row : List Nat} (ok : rw_ok row) : (x &&& rw_m rw_a row = rw_m rw_g row) = (rw_h x row = true) := by
  apply propext
  rw [rw_h_iff]
  constructor
  · intro h c hc
    have hlt := (ok.1 c hc).1
    have hi : c % 100 < 32 := by omega
    have e := congrArg (fun z => bt z (c % 100)) h
    try dsimp only at e
    rw [b_and] at e
    have ea : bt (rw_m rw_a row) (c % 100) = true := (rw_m_bt hi row ok.1).mpr ⟨c, hc, rfl, rfl⟩
    rw [ea, Bool.and_true] at e
    rw [e]
    by_cases c1 : 100 ≤ c
    · rw [(rw_m_bt hi row ok.1).mpr ⟨c, hc, by unfold rw_g; exact decide_eq_true c1, rfl⟩, decide_eq_true c1]
    · cases eb : bt (rw_m rw_g row) (c % 100)
      · rw [decide_eq_false c1]
      · obtain ⟨c', z1, z2, z3⟩ := (rw_m_bt hi row ok.1).mp eb
        have := rw_uq ok.2 c' c z1 hc z3
        subst this
        exact absurd (of_decide_eq_true z2) c1
  · intro h
    refine b_eq (fun i hi => ?_)
    rw [b_and, Bool.and_eq_true, rw_m_bt hi row ok.1, rw_m_bt hi row ok.1]
    constructor
    · rintro ⟨z1, c, z2, -, z4⟩
      subst z4
      rw [h c z2] at z1
      exact ⟨c, z2, z1, rfl⟩
    · rintro ⟨c, z1, z2, z3⟩
      subst z3
      exact ⟨by rw [h c z1]; exact z2, c, z1, rfl, rfl⟩
theorem rw_h_mo {x : Int32} {row : List Nat} (ok : rw_ok row) : (x &&& rw_m rw_g row = rw_m rw_g row ∧ x &&& rw_m rw_l row = 0) ↔ rw_h x row = true := by
  rw [rw_h_iff]
  constructor
  · rintro ⟨h1, h2⟩ c hc
    have hlt := (ok.1 c hc).1
    have hi : c % 100 < 32 := by omega
    by_cases c1 : 100 ≤ c
    · have e := congrArg (fun z => bt z (c % 100)) h1
      try dsimp only at e
      rw [b_and, (rw_m_bt hi row ok.1).mpr ⟨c, hc, by unfold rw_g; exact decide_eq_true c1, rfl⟩, Bool.and_true] at e
      rw [e, decide_eq_true c1]
    · have e := congrArg (fun z => bt z (c % 100)) h2
      try dsimp only at e
      rw [b_and, (rw_m_bt hi row ok.1).mpr ⟨c, hc, by unfold rw_l; exact decide_eq_true (by omega), rfl⟩, Bool.and_true, b_0] at e
      rw [e, decide_eq_false c1]
  · intro h
    refine ⟨b_eq (fun i hi => ?_), b_eq (fun i hi => ?_)⟩
    · rw [b_and, Bool.and_eq_true]
      constructor
      · exact fun z => z.2
      · intro z
        obtain ⟨c, z1, z2, z3⟩ := (rw_m_bt hi row ok.1).mp z
        refine ⟨?_, z⟩
        subst z3
        rw [h c z1]; exact z2
    · rw [b_and, Bool.and_eq_true, b_0]
      constructor
      · rintro ⟨y, z⟩
        obtain ⟨c, z1, z2, z3⟩ := (rw_m_bt hi row ok.1).mp z
        subst z3
        rw [h c z1] at y
        have a := of_decide_eq_true y
        have b := of_decide_eq_true z2
        omega
      · intro z; cases z
theorem rw_ok_del {a b : List Nat} {c : Nat} (ok : rw_ok (a ++ c :: b)) : rw_ok (a ++ b) ∧ (∀ z, z ∈ a ++ b → z % 100 ≠ c % 100) ∧ c % 100 < 16 ∧ c < 200 := by
  obtain ⟨h1, h2⟩ := ok
  rw [List.pairwise_append, List.pairwise_cons] at h2
  obtain ⟨p1, ⟨p2, p3⟩, p4⟩ := h2
  have hm : ∀ z, z ∈ a ++ b → z ∈ a ++ c :: b := fun z hz => by
    rcases List.mem_append.mp hz with y | y
    · exact List.mem_append_left _ y
    · exact List.mem_append_right _ (List.mem_cons_of_mem _ y)
  refine ⟨⟨fun z hz => h1 z (hm z hz), ?_⟩, fun z hz => ?_, h1 c (List.mem_append_right _ List.mem_cons_self)⟩
  · rw [List.pairwise_append]
    exact ⟨p1, p3, fun x hx y hy => p4 x hx y (List.mem_cons_of_mem _ hy)⟩
  · rcases List.mem_append.mp hz with y | y
    · exact p4 z y c List.mem_cons_self
    · exact fun e => p2 z y e.symm
theorem rw_m_del {p : Nat → Bool} {a b : List Nat} {c : Nat} (ok : rw_ok (a ++ c :: b)) : rw_m p (a ++ c :: b) &&& ((1 <<< (nI (c % 100) &&& 31)) ^^^ -1) = rw_m p (a ++ b) := by
  obtain ⟨o1, o2, o3, -⟩ := rw_ok_del ok
  refine b_eq (fun i hi => ?_)
  rw [b_and, Bool.and_eq_true, b_xor, b_m1 i hi, b_one (by omega) hi, rw_m_bt hi _ ok.1, rw_m_bt hi _ o1.1]
  constructor
  · rintro ⟨⟨z, z1, z2, z3⟩, y⟩
    have hne : i ≠ c % 100 := by intro e; rw [decide_eq_true e] at y; cases y
    refine ⟨z, ?_, z2, z3⟩
    rcases List.mem_append.mp z1 with x | x
    · exact List.mem_append_left _ x
    · rcases List.mem_cons.mp x with w | w
      · subst w; exact absurd z3.symm hne
      · exact List.mem_append_right _ w
  · rintro ⟨z, z1, z2, z3⟩
    have hne : i ≠ c % 100 := fun e => o2 z z1 (by rw [z3, e])
    refine ⟨⟨z, ?_, z2, z3⟩, by rw [decide_eq_false hne]; rfl⟩
    rcases List.mem_append.mp z1 with x | x
    · exact List.mem_append_left _ x
    · exact List.mem_append_right _ (List.mem_cons_of_mem _ x)
theorem rw_m_ins {p : Nat → Bool} {a b : List Nat} {c : Nat} : rw_m p (a ++ c :: b) = rw_m p (a ++ b) ||| (if p c = true then 1 <<< (nI (c % 100) &&& 31) else 0) := by
  induction a with
  | nil => show _ ||| rw_m p b = rw_m p b ||| _; exact Int32.or_comm _ _
  | cons z a ih =>
    show _ ||| rw_m p (a ++ c :: b) = (_ ||| rw_m p (a ++ b)) ||| _
    rw [ih, Int32.or_assoc]
theorem rw_m_snoc {p : Nat → Bool} {a : List Nat} {c : Nat} : rw_m p (a ++ [c]) = rw_m p a ||| (if p c = true then 1 <<< (nI (c % 100) &&& 31) else 0) := by
  have := rw_m_ins (p := p) (a := a) (b := []) (c := c)
  rw [List.append_nil] at this
  exact this
/-! what rows prove; shortening -/
def rs_pv (N K : Nat) (fl : Nat → Nat → Bool) (nx : Nat → Nat → Option Nat) (held : Nat → Bool) : Bool := !(bs_an (fun s => if held s = true then fl s 1 else fl s 0) N) && !(bs_an (fun s => held s && bs_h nx (fun t => !held t) s K) N)
def rs_in (R : Nat → List Nat) (out : Nat → Bool) (r : Nat) (x : Int32) : Bool := bs_an (fun k => !out k && rw_h x (R k)) r
def rs_P (N K : Nat) (tb : Nat → Int32) (fl : Nat → Nat → Bool) (nx : Nat → Nat → Option Nat) (r : Nat) (R : Nat → List Nat) (out : Nat → Bool) : Bool := rs_pv N K fl nx (fun s => rs_in R out r (tb s))
def sh_row (pv : List Nat → Bool) : List Nat → List Nat → List Nat
  | a, [] => a
  | a, c :: b => if pv (a ++ b) = true then sh_row pv a b else sh_row pv (a ++ [c]) b
def am_uL (R : Nat → List Nat) (k : Nat) (x : List Nat) : Nat → List Nat := fun i => if i = k then x else R i
def am_uB (R : Nat → Bool) (k : Nat) (x : Bool) : Nat → Bool := fun i => if i = k then x else R i
def sh_ts (pv : (Nat → List Nat) → Bool) (R0 : Nat → List Nat) : Nat → Nat → List Nat
  | 0 => R0
  | k + 1 => am_uL (sh_ts pv R0 k) k (sh_row (fun x => pv (am_uL (sh_ts pv R0 k) k x)) [] (sh_ts pv R0 k k))
def sh_rs (pv : (Nat → Bool) → Bool) : Nat → Nat → Bool
  | 0 => fun _ => false
  | k + 1 => am_uB (sh_rs pv k) k (pv (am_uB (sh_rs pv k) k true))
theorem sh_row_ok (pv : List Nat → Bool) : ∀ (b a : List Nat), rw_ok (a ++ b) → rw_ok (sh_row pv a b) ∧ (sh_row pv a b).length ≤ (a ++ b).length := by
  intro b
  induction b with
  | nil => intro a h; rw [List.append_nil] at h ⊢; exact ⟨h, Nat.le_refl _⟩
  | cons c b ih =>
    intro a h
    unfold sh_row
    split
    · obtain ⟨h1, h2⟩ := ih a (rw_ok_del h).1
      exact ⟨h1, by simp at h2 ⊢; omega⟩
    · obtain ⟨h1, h2⟩ := ih (a ++ [c]) (by rw [List.append_assoc]; exact h)
      exact ⟨h1, by simp at h2 ⊢; omega⟩
theorem sh_ts_ok {pv : (Nat → List Nat) → Bool} {R0 : Nat → List Nat} (h : ∀ k, rw_ok (R0 k) ∧ (R0 k).length ≤ 16) : ∀ n k, rw_ok (sh_ts pv R0 n k) ∧ (sh_ts pv R0 n k).length ≤ 16 := by
  intro n
  induction n with
  | zero => exact h
  | succ n ih =>
    intro k
    unfold sh_ts am_uL
    split
    · obtain ⟨h1, h2⟩ := sh_row_ok (fun x => pv (fun i => if i = n then x else sh_ts pv R0 n i)) (sh_ts pv R0 n n) [] (ih n).1
      exact ⟨h1, by have := (ih n).2; simp at h2; omega⟩
    · exact ih k
theorem bs_an_iff {B : Nat → Bool} {n : Nat} : bs_an B n = true ↔ ∃ k, k < n ∧ B k = true := by
  induction n with
  | zero => exact ⟨fun h => (by cases h), fun ⟨k, h, _⟩ => absurd h (Nat.not_lt_zero k)⟩
  | succ n ih =>
    show (bs_an B n || B n) = true ↔ _
    rw [Bool.or_eq_true, ih]
    constructor
    · rintro (⟨k, h1, h2⟩ | h)
      · exact ⟨k, by omega, h2⟩
      · exact ⟨n, by omega, h⟩
    · rintro ⟨k, h1, h2⟩
      by_cases c : k = n
      · subst c; exact Or.inr h2
      · exact Or.inl ⟨k, by omega, h2⟩
theorem bs_an_f {B : Nat → Bool} {n : Nat} : bs_an B n = false ↔ ∀ k, k < n → B k = false := by
  cases h : bs_an B n
  · refine ⟨fun _ k hk => ?_, fun _ => rfl⟩
    cases e : B k
    · rfl
    · rw [bs_an_iff.mpr ⟨k, hk, e⟩] at h; cases h
  · obtain ⟨k, h1, h2⟩ := bs_an_iff.mp h
    refine ⟨fun z => (by cases z), fun z => ?_⟩
    rw [z k h1] at h2; cases h2
theorem bs_an_cn {B : Nat → Bool} {n : Nat} : (am_cn B n = 0) = (bs_an B n = false) := propext ⟨fun h => bs_an_f.mpr (fun k hk => am_cn_zero h k hk), fun h => am_cn_zero' (fun k hk => bs_an_f.mp h k hk)⟩
theorem bs_an_cg {B B' : Nat → Bool} {n : Nat} (h : ∀ k, k < n → B k = B' k) : bs_an B n = bs_an B' n := by
  induction n with
  | zero => rfl
  | succ n ih =>
    show (bs_an B n || B n) = (bs_an B' n || B' n)
    rw [ih (fun k hk => h k (by omega)), h n (by omega)]
theorem rs_pv_cg {N K : Nat} {fl : Nat → Nat → Bool} {nx : Nat → Nat → Option Nat} {held held' : Nat → Bool} (hx : ∀ s, s < N → ∀ k, k < K → ∀ t, nx s k = some t → t < N) (h : ∀ s, s < N → held s = held' s) : rs_pv N K fl nx held = rs_pv N K fl nx held' := by
  unfold rs_pv
  rw [bs_an_cg (B' := fun s => if held' s = true then fl s 1 else fl s 0) (fun s hs => by rw [h s hs]), bs_an_cg (n := N) (B := fun s => held s && bs_h nx (fun t => !held t) s K) (B' := fun s => held' s && bs_h nx (fun t => !held' t) s K) (fun s hs => by rw [h s hs, bs_h_congr (B := fun t => !held t) (B' := fun t => !held' t) (fun t ht => by rw [h t ht]) (hx s hs)])]
