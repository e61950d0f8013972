/-! THE LAW'S WORLD: the class's at ρ1, the reference's at ρ2, the array out at w -/
def lw_A (s : State) : Nat → Prop := fun q => s.heap.size ≤ q
def lw_O (w : Nat) (cL : ClassId) (x : Int64) : va_W := [(w, .inl (cL, 1, .inr (.inl (fun _ => x))))]
def lw_V (s : State) (D : va_G) (K : Nat → ClassId) (cL : ClassId) (ρ1 ρ2 : Nat → Nat) (w : Nat) (σ1 σ2 : am_St) (x : Int64) (H : Heap) (locs : List Loc) : Prop :=
  va_P D am_cl (am_ws K ρ1 false σ1) H ∧ va_P D am_cl (am_ws K ρ2 true σ2) H ∧ va_P D am_cl (lw_O w cL x) H ∧ va_D (lw_A s) (am_ws K ρ1 false σ1) ∧ va_D (lw_A s) (am_ws K ρ2 true σ2) ∧ va_D (lw_A s) (lw_O w cL x) ∧
  (∀ i ∈ am_ids false, ∀ j ∈ am_ids true, ρ1 i ≠ ρ2 j) ∧ (∀ i ∈ am_ids false, ρ1 i ≠ w) ∧ (∀ j ∈ am_ids true, ρ2 j ≠ w) ∧ va_S (lw_A s) s.heap H locs
theorem am_ws_in {K : Nat → ClassId} {ρ : Nat → Nat} {sd : Bool} {σ : am_St} {k : Nat} {q : Nat × va_E} (h : (am_ws K ρ sd σ)[k]? = some q) : ∃ i ∈ am_ids sd, q.1 = ρ i := by
  unfold am_ws at h
  rw [List.getElem?_map] at h
  cases hi : (am_ids sd)[k]? with
  | none => rw [hi] at h; cases h
  | some i => rw [hi] at h; cases h; exact ⟨i, List.mem_of_getElem? hi, rfl⟩
theorem am_ws_D {A : Nat → Prop} {K : Nat → ClassId} {ρ : Nat → Nat} {sd : Bool} {σ σ' : am_St} (h : va_D A (am_ws K ρ sd σ)) : va_D A (am_ws K ρ sd σ') :=
  am_wD_tr h (fun _ q => q) (fun x y a hx hy => by
    have g1 := List.getElem?_eq_some_iff.mp hx
    have g2 := List.getElem?_eq_some_iff.mp hy
    exact (List.getElem_inj (am_ids_nd sd)).mp (g1.2.trans g2.2.symm))
/-- what lies apart from a world stays when a method of that world has run -/
theorem am_ws_ap {D : va_G} {K : Nat → ClassId} {ρ : Nat → Nat} {sd : Bool} {σ : am_St} {ws : va_W} {H H1 : Heap} (hP : va_P D am_cl ws H) (hk : ∀ q : Nat, q < H.size → ¬ va_A (am_ws K ρ sd σ) H.size q → H1[q]? = H[q]?) (ha : ∀ (k : Nat) (q : Nat × va_E), ws[k]? = some q → ∀ i ∈ am_ids sd, ρ i ≠ q.1) : va_P D am_cl ws H1 := by
  refine hP.kept (fun k q hq => hk q.1 (hP k q hq).lt (fun z => ?_))
  rcases z with ⟨k2, e, z⟩ | z
  · obtain ⟨i, hi, e2⟩ := am_ws_in z
    exact ha k q hq i hi e2.symm
  · exact absurd (hP k q hq).lt (Nat.not_lt.mpr z)
section LWV
variable {s : State} {D : va_G} {K : Nat → ClassId} {cL : ClassId} {ρ1 ρ2 : Nat → Nat} {w : Nat} {σ1 σ2 : am_St} {x : Int64} {H : Heap} {locs : List Loc}
theorem lw_V.one (h : lw_V s D K cL ρ1 ρ2 w σ1 σ2 x H locs) {σ' : am_St} {H1 : Heap} {locs1 : List Loc} (hP : va_P D am_cl (am_ws K ρ1 false σ') H1) (hk : ∀ q : Nat, q < H.size → ¬ va_A (am_ws K ρ1 false σ1) H.size q → H1[q]? = H[q]?) (hS : va_S (lw_A s) s.heap H1 locs1) : lw_V s D K cL ρ1 ρ2 w σ' σ2 x H1 locs1 := by
  obtain ⟨p1, p2, p3, d1, d2, d3, a1, a2, a3, -⟩ := h
  refine ⟨hP, am_ws_ap p2 hk (fun k q hq i hi => ?_), am_ws_ap p3 hk (fun k q hq i hi => ?_), am_ws_D d1, d2, d3, a1, a2, a3, hS⟩
  · obtain ⟨j, hj, e⟩ := am_ws_in hq
    rw [e]; exact a1 i hi j hj
  · have hz : k < 1 := (List.getElem?_eq_some_iff.mp hq).1
    rw [show k = 0 by omega] at hq
    cases hq
    exact a2 i hi
theorem lw_V.two (h : lw_V s D K cL ρ1 ρ2 w σ1 σ2 x H locs) {σ' : am_St} {H1 : Heap} {locs1 : List Loc} (hP : va_P D am_cl (am_ws K ρ2 true σ') H1) (hk : ∀ q : Nat, q < H.size → ¬ va_A (am_ws K ρ2 true σ2) H.size q → H1[q]? = H[q]?) (hS : va_S (lw_A s) s.heap H1 locs1) : lw_V s D K cL ρ1 ρ2 w σ1 σ' x H1 locs1 := by
  obtain ⟨p1, p2, p3, d1, d2, d3, a1, a2, a3, -⟩ := h
  refine ⟨am_ws_ap p1 hk (fun k q hq j hj => ?_), hP, am_ws_ap p3 hk (fun k q hq j hj => ?_), d1, am_ws_D d2, d3, a1, a2, a3, hS⟩
  · obtain ⟨i, hi, e⟩ := am_ws_in hq
    rw [e]; exact (a1 i hi j hj).symm
  · have hz : k < 1 := (List.getElem?_eq_some_iff.mp hq).1
    rw [show k = 0 by omega] at hq
    cases hq
    exact a3 j hj
end LWV
/-- what the law's walk stands on -/
def lw_X (p : Program) (s : State) (m : MethodId) (meth : Method) (c : Code) (b L : Nat) (xs : Nat → Int32) (D : va_G) (K : Nat → ClassId) (cL : ClassId) (ρ1 ρ2 : Nat → Nat) : Prop :=
  CallFix p m c code 7 s #[Value.ref b] am_tbl "InvariantLearnerLaw" ∧ va_K D am_cl (am_tys K) s ∧ va_K D am_cl [(cL, .long)] s ∧ am_HA ρ1 s (lw_A s) ∧ am_HA ρ2 s (lw_A s) ∧ va_X b L xs s s.heap ∧ b < s.heap.size ∧ L ≤ 3072
section LWC
variable {p : Program} {l : Launch} {e : Env} {s : State} {m : MethodId} {below : List Frame} {meth : Method} {c : Code} {b L : Nat} {xs : Nat → Int32} {D : va_G} {K : Nat → ClassId} {cL : ClassId} {ρ1 ρ2 : Nat → Nat} {w : Nat} {σ1 σ2 : am_St} {x : Int64} {H : Heap} {locs : List Loc} {cells slots : Nat} {Ψ : State → Prop} {pc : Nat} {ls : Array Slot} {rest : List Value}
/-- a call of the class -/
theorem lw_c1 {y' : am_Y} {d idx n : Nat} {as : List Value} {v : Int32} {S' : am_St → Prop} (hX : lw_X p s m meth c b L xs D K cL ρ1 ρ2) (hls : ls.size = 7) (hd : decode code pc = .ok (.invokevirtual idx, 3)) (hw : am_mV "InvariantLearnerLaw" idx y' n) (hcl : some na_R10 = some y'.1.cls) (hn : as.length = n) (hr : (rest.map fun v => v.category).sum ≤ 8) (hi : ∀ z ∈ as, ∃ u, z = .int u) (hC : am_C false y' d (.ref (am_oid 0) :: as) σ1 (fun r τ => r = some (.int v) ∧ S' τ)) (hdd : d ≤ 60) (hf : cells ≤ 601024 ∧ slots ≤ 7293034) (hV : lw_V s D K cL ρ1 ρ2 w σ1 σ2 x H locs)
    (k : ∀ (τ : am_St) (H1 : Heap) (locs1 : List Loc), S' τ → lw_V s D K cL ρ1 ρ2 w τ σ2 x H1 locs1 → W p l e room_1 s m #[Value.ref b] below meth c H1 locs1 cells slots Ψ (F0 m (pc + 3) ls (.int v :: rest))) :
    W p l e room_1 s m #[Value.ref b] below meth c H locs cells slots Ψ (F0 m pc ls (as.reverse ++ .ref (ρ1 (am_oid 0)) :: rest)) := by
  have has : as.map (am_v ρ1) = as := (List.map_congr_left (fun z hz => by obtain ⟨u, rfl⟩ := hi z hz; rfl)).trans (List.map_id as)
  obtain ⟨p1, p2, p3, d1, d2, d3, a1, a2, a3, hS⟩ := hV
  have hh := am_goV (sd := false) (o := 0) (ci := 10) (R := room_1) (Ψ := Ψ) (rest := rest) (as := as) (cells := cells) (slots := slots) (e := e) (below := below) (meth := meth) (l := l) hX.1 hls hd hw rfl (by decide) hcl hn hr hC ⟨by show d + 1 ≤ 2048; omega, by show 40 * (d + 1) ≤ 84000; omega⟩ hf hX.2.1 hX.2.2.2.1 p1 d1 hS (fun r τ H1 locs1 hq g1 g2 g3 g4 g5 => by
    obtain ⟨rfl, hq⟩ := hq
    exact k τ H1 locs1 hq (lw_V.one ⟨p1, p2, p3, d1, d2, d3, a1, a2, a3, hS⟩ g1 g4 g5))
  rw [has] at hh
  exact hh
/-- a call of the reference -/
theorem lw_c2 {y' : am_Y} {d idx n : Nat} {as : List Value} {v : Int32} {S' : am_St → Prop} (hX : lw_X p s m meth c b L xs D K cL ρ1 ρ2) (hls : ls.size = 7) (hd : decode code pc = .ok (.invokevirtual idx, 3)) (hw : am_mV "InvariantLearnerLaw" idx y' n) (hcl : some na_R11 = some y'.1.cls) (hn : as.length = n) (hr : (rest.map fun v => v.category).sum ≤ 8) (hi : ∀ z ∈ as, ∃ u, z = .int u) (hC : am_C true y' d (.ref (am_oid 16) :: as) σ2 (fun r τ => r = some (.int v) ∧ S' τ)) (hdd : d ≤ 60) (hf : cells ≤ 601024 ∧ slots ≤ 7293034) (hV : lw_V s D K cL ρ1 ρ2 w σ1 σ2 x H locs)
    (k : ∀ (τ : am_St) (H1 : Heap) (locs1 : List Loc), S' τ → lw_V s D K cL ρ1 ρ2 w σ1 τ x H1 locs1 → W p l e room_1 s m #[Value.ref b] below meth c H1 locs1 cells slots Ψ (F0 m (pc + 3) ls (.int v :: rest))) :
    W p l e room_1 s m #[Value.ref b] below meth c H locs cells slots Ψ (F0 m pc ls (as.reverse ++ .ref (ρ2 (am_oid 16)) :: rest)) := by
  have has : as.map (am_v ρ2) = as := (List.map_congr_left (fun z hz => by obtain ⟨u, rfl⟩ := hi z hz; rfl)).trans (List.map_id as)
  obtain ⟨p1, p2, p3, d1, d2, d3, a1, a2, a3, hS⟩ := hV
  have hh := am_goV (sd := true) (o := 16) (ci := 11) (R := room_1) (Ψ := Ψ) (rest := rest) (as := as) (cells := cells) (slots := slots) (e := e) (below := below) (meth := meth) (l := l) hX.1 hls hd hw rfl (by decide) hcl hn hr hC ⟨by show d + 1 ≤ 2048; omega, by show 40 * (d + 1) ≤ 84000; omega⟩ hf hX.2.1 hX.2.2.2.2.1 p2 d2 hS (fun r τ H1 locs1 hq g1 g2 g3 g4 g5 => by
    obtain ⟨rfl, hq⟩ := hq
    exact k τ H1 locs1 hq (lw_V.two ⟨p1, p2, p3, d1, d2, d3, a1, a2, a3, hS⟩ g1 g4 g5))
  rw [has] at hh
  exact hh
end LWC
