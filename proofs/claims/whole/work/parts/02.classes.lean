/-! classes, their fields, their words; the printed names of claim/NAMES began this part -/
def am_tbl : List Cond := lw_tbl.filter goodWord
theorem am_in {w : Cond} (i : Nat) (h : lw_tbl[i]? = some w) (g : goodWord w = true) : w ∈ am_tbl := List.mem_filter.mpr ⟨List.mem_of_getElem? h, g⟩
def na_R0 : String := "InvariantLearner$Fitter"
def na_F0 : u_T := fun k => match k with
  | 0 => ("InvariantLearner$Fitter", "world", "LInvariantLearner$World;", true)
  | 1 => ("InvariantLearner$Fitter", "labels", "[I", true)
  | 2 => ("InvariantLearner$Fitter", "bits", "[I", true)
  | 3 => ("InvariantLearner$Fitter", "members", "[I", true)
  | 4 => ("InvariantLearner$Fitter", "inside", "[I", true)
  | 5 => ("InvariantLearner$Fitter", "open", "[I", true)
  | 6 => ("InvariantLearner$Fitter", "opened", "I", false)
  | 7 => ("InvariantLearner$Fitter", "from", "I", false)
  | 8 => ("InvariantLearner$Fitter", "to", "I", false)
  | 9 => ("InvariantLearner$Fitter", "pairFrom", "I", false)
  | 10 => ("InvariantLearner$Fitter", "pairTo", "I", false)
  | 11 => ("InvariantLearner$Fitter", "parent", "I", false)
  | _ => ("InvariantLearner$Fitter", "isHoldingSide", "Z", false)
def na_t0 : Nat → FieldType := fun k => match k with
  | 0 => .object "InvariantLearner$World"
  | 1 => .array .int
  | 2 => .array .int
  | 3 => .array .int
  | 4 => .array .int
  | 5 => .array .int
  | 6 => .int
  | 7 => .int
  | 8 => .int
  | 9 => .int
  | 10 => .int
  | 11 => .int
  | _ => .boolean
theorem na_n0 : ∀ a, a < 13 → ∀ b, b < 13 → a ≠ b → (na_F0 a).2.1 ≠ (na_F0 b).2.1 := by decide +kernel
theorem na_o0 : ∀ k, k < 13 → parseFieldDescriptor (na_F0 k).2.2.1 = some (na_t0 k) := by decide +kernel
def na_p0 : List Nat := [442, 444, 446, 448, 450, 452, 454, 456, 458, 460, 462, 464, 466]
theorem na_q0 : ∀ k, k < 13 → lw_tbl[na_p0.getD k 0]? = some (u_lay na_R0 na_F0 k) ∧ goodWord (u_lay na_R0 na_F0 k) = true := by decide +kernel
theorem na_w0 : ∀ w ∈ u_ws na_R0 na_F0 13, w ∈ am_tbl := by
  intro w hw
  obtain ⟨k, hk, rfl⟩ := List.mem_map.mp hw
  exact am_in _ (na_q0 k (List.mem_range.mp hk)).1 (na_q0 k (List.mem_range.mp hk)).2
def na_R1 : String := "InvariantLearner$Learner"
def na_F1 : u_T := fun k => match k with
  | 0 => ("InvariantLearner$Learner", "world", "LInvariantLearner$World;", true)
  | 1 => ("InvariantLearner$Learner", "fitter", "LInvariantLearner$Fitter;", true)
  | 2 => ("InvariantLearner$Learner", "samples", "LInvariantLearner$Samples;", true)
  | 3 => ("InvariantLearner$Learner", "tree", "LInvariantLearner$Tree;", false)
  | 4 => ("InvariantLearner$Learner", "spare", "LInvariantLearner$Tree;", false)
  | 5 => ("InvariantLearner$Learner", "held", "[Z", true)
  | 6 => ("InvariantLearner$Learner", "care", "I", false)
  | 7 => ("InvariantLearner$Learner", "order", "I", false)
  | 8 => ("InvariantLearner$Learner", "tests", "I", false)
  | 9 => ("InvariantLearner$Learner", "end", "I", false)
  | 10 => ("InvariantLearner$Learner", "rounds", "I", false)
  | 11 => ("InvariantLearner$Learner", "broughtKind", "I", false)
  | 12 => ("InvariantLearner$Learner", "broughtFirst", "I", false)
  | 13 => ("InvariantLearner$Learner", "broughtSecond", "I", false)
  | _ => ("InvariantLearner$Learner", "drawnFrom", "J", false)
def na_t1 : Nat → FieldType := fun k => match k with
  | 0 => .object "InvariantLearner$World"
  | 1 => .object "InvariantLearner$Fitter"
  | 2 => .object "InvariantLearner$Samples"
  | 3 => .object "InvariantLearner$Tree"
  | 4 => .object "InvariantLearner$Tree"
  | 5 => .array .boolean
  | 6 => .int
  | 7 => .int
  | 8 => .int
  | 9 => .int
  | 10 => .int
  | 11 => .int
  | 12 => .int
  | 13 => .int
  | _ => .long
theorem na_n1 : ∀ a, a < 15 → ∀ b, b < 15 → a ≠ b → (na_F1 a).2.1 ≠ (na_F1 b).2.1 := by decide +kernel
theorem na_o1 : ∀ k, k < 15 → parseFieldDescriptor (na_F1 k).2.2.1 = some (na_t1 k) := by decide +kernel
def na_p1 : List Nat := [605, 607, 609, 611, 613, 615, 617, 619, 621, 623, 625, 627, 629, 631, 633]
theorem na_q1 : ∀ k, k < 15 → lw_tbl[na_p1.getD k 0]? = some (u_lay na_R1 na_F1 k) ∧ goodWord (u_lay na_R1 na_F1 k) = true := by decide +kernel
theorem na_w1 : ∀ w ∈ u_ws na_R1 na_F1 15, w ∈ am_tbl := by
  intro w hw
  obtain ⟨k, hk, rfl⟩ := List.mem_map.mp hw
  exact am_in _ (na_q1 k (List.mem_range.mp hk)).1 (na_q1 k (List.mem_range.mp hk)).2
def na_R2 : String := "InvariantLearner$Plan"
def na_F2 : u_T := fun k => match k with
  | 0 => ("InvariantLearner$Plan", "variables", "I", false)
  | 1 => ("InvariantLearner$Plan", "starts", "I", false)
  | 2 => ("InvariantLearner$Plan", "bads", "I", false)
  | 3 => ("InvariantLearner$Plan", "steps", "I", false)
  | 4 => ("InvariantLearner$Plan", "tests", "I", false)
  | 5 => ("InvariantLearner$Plan", "atoms", "I", false)
  | 6 => ("InvariantLearner$Plan", "states", "I", false)
  | 7 => ("InvariantLearner$Plan", "hasOthers", "Z", false)
  | 8 => ("InvariantLearner$Plan", "least", "[I", true)
  | 9 => ("InvariantLearner$Plan", "greatest", "[I", true)
  | 10 => ("InvariantLearner$Plan", "atomForms", "[I", true)
  | 11 => ("InvariantLearner$Plan", "atomSigns", "[I", true)
  | 12 => ("InvariantLearner$Plan", "slotFrom", "[I", true)
  | 13 => ("InvariantLearner$Plan", "slotTo", "[I", true)
  | 14 => ("InvariantLearner$Plan", "setForms", "[I", true)
  | _ => ("InvariantLearner$Plan", "isSet", "[Z", true)
def na_t2 : Nat → FieldType := fun k => match k with
  | 0 => .int
  | 1 => .int
  | 2 => .int
  | 3 => .int
  | 4 => .int
  | 5 => .int
  | 6 => .int
  | 7 => .boolean
  | 8 => .array .int
  | 9 => .array .int
  | 10 => .array .int
  | 11 => .array .int
  | 12 => .array .int
  | 13 => .array .int
  | 14 => .array .int
  | _ => .array .boolean
theorem na_n2 : ∀ a, a < 16 → ∀ b, b < 16 → a ≠ b → (na_F2 a).2.1 ≠ (na_F2 b).2.1 := by decide +kernel
theorem na_o2 : ∀ k, k < 16 → parseFieldDescriptor (na_F2 k).2.2.1 = some (na_t2 k) := by decide +kernel
def na_p2 : List Nat := [234, 236, 238, 240, 242, 244, 246, 248, 250, 252, 254, 256, 258, 260, 262, 264]
theorem na_q2 : ∀ k, k < 16 → lw_tbl[na_p2.getD k 0]? = some (u_lay na_R2 na_F2 k) ∧ goodWord (u_lay na_R2 na_F2 k) = true := by decide +kernel
theorem na_w2 : ∀ w ∈ u_ws na_R2 na_F2 16, w ∈ am_tbl := by
  intro w hw
  obtain ⟨k, hk, rfl⟩ := List.mem_map.mp hw
  exact am_in _ (na_q2 k (List.mem_range.mp hk)).1 (na_q2 k (List.mem_range.mp hk)).2
def na_R3 : String := "InvariantLearner$Proofs"
def na_F3 : u_T := fun k => match k with
  | 0 => ("InvariantLearner$Proofs", "world", "LInvariantLearner$World;", true)
  | 1 => ("InvariantLearner$Proofs", "isReady", "Z", false)
  | 2 => ("InvariantLearner$Proofs", "holding", "I", false)
  | 3 => ("InvariantLearner$Proofs", "failing", "I", false)
  | 4 => ("InvariantLearner$Proofs", "near", "[Z", true)
  | _ => ("InvariantLearner$Proofs", "nearer", "[Z", true)
def na_t3 : Nat → FieldType := fun k => match k with
  | 0 => .object "InvariantLearner$World"
  | 1 => .boolean
  | 2 => .int
  | 3 => .int
  | 4 => .array .boolean
  | _ => .array .boolean
theorem na_n3 : ∀ a, a < 6 → ∀ b, b < 6 → a ≠ b → (na_F3 a).2.1 ≠ (na_F3 b).2.1 := by decide +kernel
theorem na_o3 : ∀ k, k < 6 → parseFieldDescriptor (na_F3 k).2.2.1 = some (na_t3 k) := by decide +kernel
def na_p3 : List Nat := [684, 686, 688, 690, 692, 694]
theorem na_q3 : ∀ k, k < 6 → lw_tbl[na_p3.getD k 0]? = some (u_lay na_R3 na_F3 k) ∧ goodWord (u_lay na_R3 na_F3 k) = true := by decide +kernel
theorem na_w3 : ∀ w ∈ u_ws na_R3 na_F3 6, w ∈ am_tbl := by
  intro w hw
  obtain ⟨k, hk, rfl⟩ := List.mem_map.mp hw
  exact am_in _ (na_q3 k (List.mem_range.mp hk)).1 (na_q3 k (List.mem_range.mp hk)).2
def na_R4 : String := "InvariantLearner$Reader"
def na_F4 : u_T := fun k => match k with
  | 0 => ("InvariantLearner$Reader", "plan", "LInvariantLearner$Plan;", true)
  | 1 => ("InvariantLearner$Reader", "tokens", "LInvariantLearner$Tokens;", true)
  | 2 => ("InvariantLearner$Reader", "at", "I", false)
  | 3 => ("InvariantLearner$Reader", "kind", "I", false)
  | 4 => ("InvariantLearner$Reader", "place", "I", false)
  | 5 => ("InvariantLearner$Reader", "number", "I", false)
  | 6 => ("InvariantLearner$Reader", "variable", "I", false)
  | 7 => ("InvariantLearner$Reader", "signedNumber", "I", false)
  | 8 => ("InvariantLearner$Reader", "signedPlace", "I", false)
  | 9 => ("InvariantLearner$Reader", "form", "[I", true)
  | 10 => ("InvariantLearner$Reader", "fault", "I", false)
  | _ => ("InvariantLearner$Reader", "faultPlace", "I", false)
def na_t4 : Nat → FieldType := fun k => match k with
  | 0 => .object "InvariantLearner$Plan"
  | 1 => .object "InvariantLearner$Tokens"
  | 2 => .int
  | 3 => .int
  | 4 => .int
  | 5 => .int
  | 6 => .int
  | 7 => .int
  | 8 => .int
  | 9 => .array .int
  | 10 => .int
  | _ => .int
theorem na_n4 : ∀ a, a < 12 → ∀ b, b < 12 → a ≠ b → (na_F4 a).2.1 ≠ (na_F4 b).2.1 := by decide +kernel
theorem na_o4 : ∀ k, k < 12 → parseFieldDescriptor (na_F4 k).2.2.1 = some (na_t4 k) := by decide +kernel
def na_p4 : List Nat := [317, 319, 321, 323, 325, 327, 329, 331, 333, 335, 337, 339]
theorem na_q4 : ∀ k, k < 12 → lw_tbl[na_p4.getD k 0]? = some (u_lay na_R4 na_F4 k) ∧ goodWord (u_lay na_R4 na_F4 k) = true := by decide +kernel
theorem na_w4 : ∀ w ∈ u_ws na_R4 na_F4 12, w ∈ am_tbl := by
  intro w hw
  obtain ⟨k, hk, rfl⟩ := List.mem_map.mp hw
  exact am_in _ (na_q4 k (List.mem_range.mp hk)).1 (na_q4 k (List.mem_range.mp hk)).2
def na_R5 : String := "InvariantLearner$Samples"
def na_F5 : u_T := fun k => match k with
  | 0 => ("InvariantLearner$Samples", "points", "I", false)
  | 1 => ("InvariantLearner$Samples", "pairs", "I", false)
  | 2 => ("InvariantLearner$Samples", "states", "[I", true)
  | 3 => ("InvariantLearner$Samples", "told", "[I", true)
  | 4 => ("InvariantLearner$Samples", "firsts", "[I", true)
  | 5 => ("InvariantLearner$Samples", "seconds", "[I", true)
  | 6 => ("InvariantLearner$Samples", "pointOf", "[I", true)
  | 7 => ("InvariantLearner$Samples", "outHead", "[I", true)
  | 8 => ("InvariantLearner$Samples", "outNext", "[I", true)
  | 9 => ("InvariantLearner$Samples", "inHead", "[I", true)
  | 10 => ("InvariantLearner$Samples", "inNext", "[I", true)
  | 11 => ("InvariantLearner$Samples", "queue", "[I", true)
  | _ => ("InvariantLearner$Samples", "distance", "[I", true)
def na_t5 : Nat → FieldType := fun k => match k with
  | 0 => .int
  | 1 => .int
  | 2 => .array .int
  | 3 => .array .int
  | 4 => .array .int
  | 5 => .array .int
  | 6 => .array .int
  | 7 => .array .int
  | 8 => .array .int
  | 9 => .array .int
  | 10 => .array .int
  | 11 => .array .int
  | _ => .array .int
theorem na_n5 : ∀ a, a < 13 → ∀ b, b < 13 → a ≠ b → (na_F5 a).2.1 ≠ (na_F5 b).2.1 := by decide +kernel
theorem na_o5 : ∀ k, k < 13 → parseFieldDescriptor (na_F5 k).2.2.1 = some (na_t5 k) := by decide +kernel
def na_p5 : List Nat := [511, 513, 515, 517, 519, 521, 523, 525, 527, 529, 531, 533, 535]
theorem na_q5 : ∀ k, k < 13 → lw_tbl[na_p5.getD k 0]? = some (u_lay na_R5 na_F5 k) ∧ goodWord (u_lay na_R5 na_F5 k) = true := by decide +kernel
theorem na_w5 : ∀ w ∈ u_ws na_R5 na_F5 13, w ∈ am_tbl := by
  intro w hw
  obtain ⟨k, hk, rfl⟩ := List.mem_map.mp hw
  exact am_in _ (na_q5 k (List.mem_range.mp hk)).1 (na_q5 k (List.mem_range.mp hk)).2
def na_R6 : String := "InvariantLearner$Shortener"
def na_F6 : u_T := fun k => match k with
  | 0 => ("InvariantLearner$Shortener", "world", "LInvariantLearner$World;", true)
  | 1 => ("InvariantLearner$Shortener", "rowCount", "I", false)
  | 2 => ("InvariantLearner$Shortener", "isReady", "Z", false)
  | 3 => ("InvariantLearner$Shortener", "lengths", "[I", true)
  | 4 => ("InvariantLearner$Shortener", "entries", "[I", true)
  | 5 => ("InvariantLearner$Shortener", "masks", "[I", true)
  | 6 => ("InvariantLearner$Shortener", "bits", "[I", true)
  | _ => ("InvariantLearner$Shortener", "cover", "[I", true)
def na_t6 : Nat → FieldType := fun k => match k with
  | 0 => .object "InvariantLearner$World"
  | 1 => .int
  | 2 => .boolean
  | 3 => .array .int
  | 4 => .array .int
  | 5 => .array .int
  | 6 => .array .int
  | _ => .array .int
theorem na_n6 : ∀ a, a < 8 → ∀ b, b < 8 → a ≠ b → (na_F6 a).2.1 ≠ (na_F6 b).2.1 := by decide +kernel
theorem na_o6 : ∀ k, k < 8 → parseFieldDescriptor (na_F6 k).2.2.1 = some (na_t6 k) := by decide +kernel
def na_p6 : List Nat := [652, 654, 656, 658, 660, 662, 664, 666]
theorem na_q6 : ∀ k, k < 8 → lw_tbl[na_p6.getD k 0]? = some (u_lay na_R6 na_F6 k) ∧ goodWord (u_lay na_R6 na_F6 k) = true := by decide +kernel
theorem na_w6 : ∀ w ∈ u_ws na_R6 na_F6 8, w ∈ am_tbl := by
  intro w hw
  obtain ⟨k, hk, rfl⟩ := List.mem_map.mp hw
  exact am_in _ (na_q6 k (List.mem_range.mp hk)).1 (na_q6 k (List.mem_range.mp hk)).2
def na_R7 : String := "InvariantLearner$Tokens"
def na_F7 : u_T := fun k => match k with
  | 0 => ("InvariantLearner$Tokens", "count", "I", false)
  | 1 => ("InvariantLearner$Tokens", "kinds", "[I", true)
  | 2 => ("InvariantLearner$Tokens", "places", "[I", true)
  | 3 => ("InvariantLearner$Tokens", "numbers", "[I", true)
  | _ => ("InvariantLearner$Tokens", "variables", "[I", true)
def na_t7 : Nat → FieldType := fun k => match k with
  | 0 => .int
  | 1 => .array .int
  | 2 => .array .int
  | 3 => .array .int
  | _ => .array .int
theorem na_n7 : ∀ a, a < 5 → ∀ b, b < 5 → a ≠ b → (na_F7 a).2.1 ≠ (na_F7 b).2.1 := by decide +kernel
theorem na_o7 : ∀ k, k < 5 → parseFieldDescriptor (na_F7 k).2.2.1 = some (na_t7 k) := by decide +kernel
def na_p7 : List Nat := [292, 294, 296, 298, 300]
theorem na_q7 : ∀ k, k < 5 → lw_tbl[na_p7.getD k 0]? = some (u_lay na_R7 na_F7 k) ∧ goodWord (u_lay na_R7 na_F7 k) = true := by decide +kernel
theorem na_w7 : ∀ w ∈ u_ws na_R7 na_F7 5, w ∈ am_tbl := by
  intro w hw
  obtain ⟨k, hk, rfl⟩ := List.mem_map.mp hw
  exact am_in _ (na_q7 k (List.mem_range.mp hk)).1 (na_q7 k (List.mem_range.mp hk)).2
def na_R8 : String := "InvariantLearner$Tree"
def na_F8 : u_T := fun k => match k with
  | 0 => ("InvariantLearner$Tree", "nodes", "I", false)
  | 1 => ("InvariantLearner$Tree", "kinds", "[I", true)
  | 2 => ("InvariantLearner$Tree", "tests", "[I", true)
  | 3 => ("InvariantLearner$Tree", "holding", "[I", true)
  | 4 => ("InvariantLearner$Tree", "failing", "[I", true)
  | 5 => ("InvariantLearner$Tree", "had", "[I", true)
  | 6 => ("InvariantLearner$Tree", "depths", "[I", true)
  | _ => ("InvariantLearner$Tree", "parents", "[I", true)
def na_t8 : Nat → FieldType := fun k => match k with
  | 0 => .int
  | 1 => .array .int
  | 2 => .array .int
  | 3 => .array .int
  | 4 => .array .int
  | 5 => .array .int
  | 6 => .array .int
  | _ => .array .int
theorem na_n8 : ∀ a, a < 8 → ∀ b, b < 8 → a ≠ b → (na_F8 a).2.1 ≠ (na_F8 b).2.1 := by decide +kernel
theorem na_o8 : ∀ k, k < 8 → parseFieldDescriptor (na_F8 k).2.2.1 = some (na_t8 k) := by decide +kernel
def na_p8 : List Nat := [564, 566, 568, 570, 572, 574, 576, 578]
theorem na_q8 : ∀ k, k < 8 → lw_tbl[na_p8.getD k 0]? = some (u_lay na_R8 na_F8 k) ∧ goodWord (u_lay na_R8 na_F8 k) = true := by decide +kernel
theorem na_w8 : ∀ w ∈ u_ws na_R8 na_F8 8, w ∈ am_tbl := by
  intro w hw
  obtain ⟨k, hk, rfl⟩ := List.mem_map.mp hw
  exact am_in _ (na_q8 k (List.mem_range.mp hk)).1 (na_q8 k (List.mem_range.mp hk)).2
def na_R9 : String := "InvariantLearner$World"
def na_F9 : u_T := fun k => match k with
  | 0 => ("InvariantLearner$World", "variables", "I", false)
  | 1 => ("InvariantLearner$World", "starts", "I", false)
  | 2 => ("InvariantLearner$World", "bads", "I", false)
  | 3 => ("InvariantLearner$World", "steps", "I", false)
  | 4 => ("InvariantLearner$World", "tests", "I", false)
  | 5 => ("InvariantLearner$World", "states", "I", false)
  | 6 => ("InvariantLearner$World", "least", "[I", true)
  | 7 => ("InvariantLearner$World", "greatest", "[I", true)
  | 8 => ("InvariantLearner$World", "values", "[I", true)
  | 9 => ("InvariantLearner$World", "flags", "[I", true)
  | 10 => ("InvariantLearner$World", "testBits", "[I", true)
  | 11 => ("InvariantLearner$World", "targets", "[I", true)
  | 12 => ("InvariantLearner$World", "wanted", "[I", true)
  | 13 => ("InvariantLearner$World", "queue", "[I", true)
  | 14 => ("InvariantLearner$World", "intoHead", "[I", true)
  | _ => ("InvariantLearner$World", "intoNext", "[I", true)
def na_t9 : Nat → FieldType := fun k => match k with
  | 0 => .int
  | 1 => .int
  | 2 => .int
  | 3 => .int
  | 4 => .int
  | 5 => .int
  | 6 => .array .int
  | 7 => .array .int
  | 8 => .array .int
  | 9 => .array .int
  | 10 => .array .int
  | 11 => .array .int
  | 12 => .array .int
  | 13 => .array .int
  | 14 => .array .int
  | _ => .array .int
theorem na_n9 : ∀ a, a < 16 → ∀ b, b < 16 → a ≠ b → (na_F9 a).2.1 ≠ (na_F9 b).2.1 := by decide +kernel
theorem na_o9 : ∀ k, k < 16 → parseFieldDescriptor (na_F9 k).2.2.1 = some (na_t9 k) := by decide +kernel
def na_p9 : List Nat := [390, 392, 394, 396, 398, 400, 402, 404, 406, 408, 410, 412, 414, 416, 418, 420]
theorem na_q9 : ∀ k, k < 16 → lw_tbl[na_p9.getD k 0]? = some (u_lay na_R9 na_F9 k) ∧ goodWord (u_lay na_R9 na_F9 k) = true := by decide +kernel
theorem na_w9 : ∀ w ∈ u_ws na_R9 na_F9 16, w ∈ am_tbl := by
  intro w hw
  obtain ⟨k, hk, rfl⟩ := List.mem_map.mp hw
  exact am_in _ (na_q9 k (List.mem_range.mp hk)).1 (na_q9 k (List.mem_range.mp hk)).2
def na_R10 : String := "InvariantLearner"
def na_F10 : u_T := fun k => match k with
  | 0 => ("InvariantLearner", "tape", "[B", true)
  | 1 => ("InvariantLearner", "tapeLength", "I", false)
  | 2 => ("InvariantLearner", "plan", "LInvariantLearner$Plan;", true)
  | 3 => ("InvariantLearner", "reader", "LInvariantLearner$Reader;", true)
  | 4 => ("InvariantLearner", "faultFound", "I", false)
  | 5 => ("InvariantLearner", "faultPlace", "I", false)
  | 6 => ("InvariantLearner", "world", "LInvariantLearner$World;", true)
  | 7 => ("InvariantLearner", "learner", "LInvariantLearner$Learner;", true)
  | 8 => ("InvariantLearner", "trial", "LInvariantLearner$Learner;", true)
  | 9 => ("InvariantLearner", "fitter", "LInvariantLearner$Fitter;", true)
  | 10 => ("InvariantLearner", "shortener", "LInvariantLearner$Shortener;", true)
  | 11 => ("InvariantLearner", "proofs", "LInvariantLearner$Proofs;", true)
  | 12 => ("InvariantLearner", "trialFacts", "[I", true)
  | _ => ("InvariantLearner", "trialDone", "[Z", true)
def na_t10 : Nat → FieldType := fun k => match k with
  | 0 => .array .byte
  | 1 => .int
  | 2 => .object "InvariantLearner$Plan"
  | 3 => .object "InvariantLearner$Reader"
  | 4 => .int
  | 5 => .int
  | 6 => .object "InvariantLearner$World"
  | 7 => .object "InvariantLearner$Learner"
  | 8 => .object "InvariantLearner$Learner"
  | 9 => .object "InvariantLearner$Fitter"
  | 10 => .object "InvariantLearner$Shortener"
  | 11 => .object "InvariantLearner$Proofs"
  | 12 => .array .int
  | _ => .array .boolean
theorem na_n10 : ∀ a, a < 14 → ∀ b, b < 14 → a ≠ b → (na_F10 a).2.1 ≠ (na_F10 b).2.1 := by decide +kernel
theorem na_o10 : ∀ k, k < 14 → parseFieldDescriptor (na_F10 k).2.2.1 = some (na_t10 k) := by decide +kernel
def na_p10 : List Nat := [787, 789, 791, 793, 795, 797, 799, 801, 803, 805, 807, 809, 811, 813]
theorem na_q10 : ∀ k, k < 14 → lw_tbl[na_p10.getD k 0]? = some (u_lay na_R10 na_F10 k) ∧ goodWord (u_lay na_R10 na_F10 k) = true := by decide +kernel
theorem na_w10 : ∀ w ∈ u_ws na_R10 na_F10 14, w ∈ am_tbl := by
  intro w hw
  obtain ⟨k, hk, rfl⟩ := List.mem_map.mp hw
  exact am_in _ (na_q10 k (List.mem_range.mp hk)).1 (na_q10 k (List.mem_range.mp hk)).2
def na_R11 : String := "InvariantLearnerModel"
def na_F11 : u_T := fun k => match k with
  | 0 => ("InvariantLearnerModel", "thrown", "I", false)
  | 1 => ("InvariantLearnerModel", "tape", "[I", true)
  | 2 => ("InvariantLearnerModel", "taped", "I", false)
  | 3 => ("InvariantLearnerModel", "world", "[I", true)
  | 4 => ("InvariantLearnerModel", "fresh", "[I", true)
  | 5 => ("InvariantLearnerModel", "name", "[I", true)
  | 6 => ("InvariantLearnerModel", "size", "I", false)
  | 7 => ("InvariantLearnerModel", "at", "I", false)
  | 8 => ("InvariantLearnerModel", "place", "I", false)
  | 9 => ("InvariantLearnerModel", "sort", "I", false)
  | 10 => ("InvariantLearnerModel", "value", "I", false)
  | 11 => ("InvariantLearnerModel", "word", "I", false)
  | 12 => ("InvariantLearnerModel", "fault", "I", false)
  | 13 => ("InvariantLearnerModel", "faultPlace", "I", false)
  | 14 => ("InvariantLearnerModel", "lastFault", "I", false)
  | 15 => ("InvariantLearnerModel", "lastPlace", "I", false)
  | 16 => ("InvariantLearnerModel", "isBehind", "Z", false)
  | 17 => ("InvariantLearnerModel", "states", "I", false)
  | 18 => ("InvariantLearnerModel", "bits", "[I", true)
  | 19 => ("InvariantLearnerModel", "starts", "[Z", true)
  | 20 => ("InvariantLearnerModel", "bads", "[Z", true)
  | 21 => ("InvariantLearnerModel", "come", "[Z", true)
  | 22 => ("InvariantLearnerModel", "doomed", "[Z", true)
  | 23 => ("InvariantLearnerModel", "leads", "[I", true)
  | 24 => ("InvariantLearnerModel", "values", "[I", true)
  | 25 => ("InvariantLearnerModel", "known", "[I", true)
  | 26 => ("InvariantLearnerModel", "aside", "[I", true)
  | 27 => ("InvariantLearnerModel", "pointOf", "[I", true)
  | 28 => ("InvariantLearnerModel", "care", "I", false)
  | 29 => ("InvariantLearnerModel", "order", "I", false)
  | 30 => ("InvariantLearnerModel", "without", "I", false)
  | 31 => ("InvariantLearnerModel", "label", "[I", true)
  | 32 => ("InvariantLearnerModel", "tree", "[I", true)
  | 33 => ("InvariantLearnerModel", "treeMany", "I", false)
  | 34 => ("InvariantLearnerModel", "members", "[I", true)
  | 35 => ("InvariantLearnerModel", "inNode", "[I", true)
  | 36 => ("InvariantLearnerModel", "seeded", "J", false)
  | 37 => ("InvariantLearnerModel", "far", "[I", true)
  | 38 => ("InvariantLearnerModel", "rowTest", "[I", true)
  | 39 => ("InvariantLearnerModel", "rowLong", "[I", true)
  | 40 => ("InvariantLearnerModel", "rowYes", "[I", true)
  | 41 => ("InvariantLearnerModel", "rowNo", "[I", true)
  | 42 => ("InvariantLearnerModel", "rows", "I", false)
  | 43 => ("InvariantLearnerModel", "path", "[I", true)
  | 44 => ("InvariantLearnerModel", "isOut", "[Z", true)
  | 45 => ("InvariantLearnerModel", "isIn", "[Z", true)
  | 46 => ("InvariantLearnerModel", "allYes", "I", false)
  | 47 => ("InvariantLearnerModel", "allNo", "I", false)
  | 48 => ("InvariantLearnerModel", "ahead", "[Z", true)
  | _ => ("InvariantLearnerModel", "behind", "[Z", true)
def na_t11 : Nat → FieldType := fun k => match k with
  | 0 => .int
  | 1 => .array .int
  | 2 => .int
  | 3 => .array .int
  | 4 => .array .int
  | 5 => .array .int
  | 6 => .int
  | 7 => .int
  | 8 => .int
  | 9 => .int
  | 10 => .int
  | 11 => .int
  | 12 => .int
  | 13 => .int
  | 14 => .int
  | 15 => .int
  | 16 => .boolean
  | 17 => .int
  | 18 => .array .int
  | 19 => .array .boolean
  | 20 => .array .boolean
  | 21 => .array .boolean
  | 22 => .array .boolean
  | 23 => .array .int
  | 24 => .array .int
  | 25 => .array .int
  | 26 => .array .int
  | 27 => .array .int
  | 28 => .int
  | 29 => .int
  | 30 => .int
  | 31 => .array .int
  | 32 => .array .int
  | 33 => .int
  | 34 => .array .int
  | 35 => .array .int
  | 36 => .long
  | 37 => .array .int
  | 38 => .array .int
  | 39 => .array .int
  | 40 => .array .int
  | 41 => .array .int
  | 42 => .int
  | 43 => .array .int
  | 44 => .array .boolean
  | 45 => .array .boolean
  | 46 => .int
  | 47 => .int
  | 48 => .array .boolean
  | _ => .array .boolean
theorem na_n11 : ∀ a, a < 50 → ∀ b, b < 50 → a ≠ b → (na_F11 a).2.1 ≠ (na_F11 b).2.1 := by decide +kernel
theorem na_o11 : ∀ k, k < 50 → parseFieldDescriptor (na_F11 k).2.2.1 = some (na_t11 k) := by decide +kernel
def na_p11 : List Nat := [1696, 1698, 1700, 1702, 1704, 1706, 1708, 1710, 1712, 1714, 1716, 1718, 1720, 1722, 1724, 1726, 1728, 1730, 1732, 1734, 1736, 1738, 1740, 1742, 1744, 1746, 1748, 1750, 1752, 1754, 1756, 1758, 1760, 1762, 1764, 1766, 1768, 1770, 1772, 1774, 1776, 1778, 1780, 1782, 1784, 1786, 1788, 1790, 1792, 1794]
theorem na_q11 : ∀ k, k < 50 → lw_tbl[na_p11.getD k 0]? = some (u_lay na_R11 na_F11 k) ∧ goodWord (u_lay na_R11 na_F11 k) = true := by decide +kernel
theorem na_w11 : ∀ w ∈ u_ws na_R11 na_F11 50, w ∈ am_tbl := by
  intro w hw
  obtain ⟨k, hk, rfl⟩ := List.mem_map.mp hw
  exact am_in _ (na_q11 k (List.mem_range.mp hk)).1 (na_q11 k (List.mem_range.mp hk)).2
def am_cl : List vw_C := [(na_R0, na_F0, 13), (na_R1, na_F1, 15), (na_R2, na_F2, 16), (na_R3, na_F3, 6), (na_R4, na_F4, 12), (na_R5, na_F5, 13), (na_R6, na_F6, 8), (na_R7, na_F7, 5), (na_R8, na_F8, 8), (na_R9, na_F9, 16), (na_R10, na_F10, 14), (na_R11, na_F11, 50)]
/-- the kinds of fields: 0 int, 1 boolean, 2 long, 3 an array (of int, byte, boolean; its length), 4 an object for good, 5 an object that changes -/
def am_ft : List (List (Nat × Nat × Nat)) := [[(4, 0, 0), (3, 0, 200), (3, 0, 200), (3, 0, 200), (3, 0, 300), (3, 0, 120), (0, 0, 0), (0, 0, 0), (0, 0, 0), (0, 0, 0), (0, 0, 0), (0, 0, 0), (1, 0, 0)], [(4, 0, 0), (4, 0, 0), (4, 0, 0), (5, 0, 0), (5, 0, 0), (3, 2, 600), (0, 0, 0), (0, 0, 0), (0, 0, 0), (0, 0, 0), (0, 0, 0), (0, 0, 0), (0, 0, 0), (0, 0, 0), (2, 0, 0)], [(0, 0, 0), (0, 0, 0), (0, 0, 0), (0, 0, 0), (0, 0, 0), (0, 0, 0), (0, 0, 0), (1, 0, 0), (3, 0, 3), (3, 0, 3), (3, 0, 576), (3, 0, 144), (3, 0, 32), (3, 0, 32), (3, 0, 96), (3, 2, 24)], [(4, 0, 0), (1, 0, 0), (0, 0, 0), (0, 0, 0), (3, 2, 600), (3, 2, 600)], [(4, 0, 0), (4, 0, 0), (0, 0, 0), (0, 0, 0), (0, 0, 0), (0, 0, 0), (0, 0, 0), (0, 0, 0), (0, 0, 0), (3, 0, 4), (0, 0, 0), (0, 0, 0)], [(0, 0, 0), (0, 0, 0), (3, 0, 200), (3, 0, 200), (3, 0, 300), (3, 0, 300), (3, 0, 600), (3, 0, 200), (3, 0, 300), (3, 0, 200), (3, 0, 300), (3, 0, 200), (3, 0, 200)], [(4, 0, 0), (0, 0, 0), (1, 0, 0), (3, 0, 200), (3, 0, 3200), (3, 0, 200), (3, 0, 200), (3, 0, 600)], [(0, 0, 0), (3, 0, 901), (3, 0, 901), (3, 0, 901), (3, 0, 901)], [(0, 0, 0), (3, 0, 400), (3, 0, 400), (3, 0, 400), (3, 0, 400), (3, 0, 400), (3, 0, 400), (3, 0, 400)], [(0, 0, 0), (0, 0, 0), (0, 0, 0), (0, 0, 0), (0, 0, 0), (0, 0, 0), (3, 0, 3), (3, 0, 3), (3, 0, 1800), (3, 0, 600), (3, 0, 600), (3, 0, 4800), (3, 0, 3), (3, 0, 600), (3, 0, 600), (3, 0, 4800)], [(3, 1, 900), (0, 0, 0), (4, 0, 0), (4, 0, 0), (0, 0, 0), (0, 0, 0), (4, 0, 0), (4, 0, 0), (4, 0, 0), (4, 0, 0), (4, 0, 0), (4, 0, 0), (3, 0, 272), (3, 2, 68)], [(0, 0, 0), (3, 0, 900), (0, 0, 0), (3, 0, 1300), (3, 0, 1300), (3, 0, 3), (0, 0, 0), (0, 0, 0), (0, 0, 0), (0, 0, 0), (0, 0, 0), (0, 0, 0), (0, 0, 0), (0, 0, 0), (0, 0, 0), (0, 0, 0), (1, 0, 0), (0, 0, 0), (3, 0, 600), (3, 2, 600), (3, 2, 600), (3, 2, 600), (3, 2, 600), (3, 0, 4800), (3, 0, 3), (3, 0, 3414), (3, 0, 3414), (3, 0, 600), (0, 0, 0), (0, 0, 0), (0, 0, 0), (3, 0, 200), (3, 0, 2412), (0, 0, 0), (3, 0, 200), (3, 0, 200), (2, 0, 0), (3, 0, 200), (3, 0, 3232), (3, 0, 202), (3, 0, 202), (3, 0, 202), (0, 0, 0), (3, 0, 17), (3, 2, 202), (3, 2, 600), (0, 0, 0), (0, 0, 0), (3, 2, 600), (3, 2, 600)]]
/-- the classes of the objects: 0 to 15 the component's, 16 the model -/
def am_k (sd : Bool) (o : Nat) : Nat := if sd = true then (if o = 16 then 11 else 99) else ([10, 2, 4, 7, 9, 0, 1, 1, 5, 5, 8, 8, 8, 8, 6, 3] : List Nat).getD o 99
def am_lk (o k : Nat) : Nat := (([[0, 0, 1, 2, 0, 0, 4, 6, 7, 5, 14, 15, 0, 0], [0, 0, 0, 0, 0, 0, 0, 0, 0, 0, 0, 0, 0, 0, 0, 0], [1, 3, 0, 0, 0, 0, 0, 0, 0, 0, 0, 0], [0, 0, 0, 0, 0], [0, 0, 0, 0, 0, 0, 0, 0, 0, 0, 0, 0, 0, 0, 0, 0], [4, 0, 0, 0, 0, 0, 0, 0, 0, 0, 0, 0, 0], [4, 5, 8, 0, 0, 0, 0, 0, 0, 0, 0, 0, 0, 0, 0], [4, 5, 9, 0, 0, 0, 0, 0, 0, 0, 0, 0, 0, 0, 0], [0, 0, 0, 0, 0, 0, 0, 0, 0, 0, 0, 0, 0], [0, 0, 0, 0, 0, 0, 0, 0, 0, 0, 0, 0, 0], [0, 0, 0, 0, 0, 0, 0, 0], [0, 0, 0, 0, 0, 0, 0, 0], [0, 0, 0, 0, 0, 0, 0, 0], [0, 0, 0, 0, 0, 0, 0, 0], [4, 0, 0, 0, 0, 0, 0, 0], [4, 0, 0, 0, 0, 0]] : List (List Nat)).getD o []).getD k 0
