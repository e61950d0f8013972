/-! the law's locals, and one argument out of the script -/
def lw_L (b : Nat) (ρ1 ρ2 : Nat → Nat) (w : Nat) (i : Nat) (ls : Array Slot) : Prop := lv_has ls 7 [(0, .ref b), (1, .ref (ρ1 (am_oid 0))), (2, .ref (ρ2 (am_oid 16))), (3, .ref w), (4, .int (nI i))]
section LWR
variable {p : Program} {l : Launch} {e : Env} {s : State} {m : MethodId} {below : List Frame} {meth : Method} {c : Code} {b L : Nat} {xs : Nat → Int32} {D : va_G} {K : Nat → ClassId} {cL : ClassId} {ρ1 ρ2 : Nat → Nat} {w i : Nat} {H : Heap} {locs : List Loc} {cells slots : Nat} {Ψ : State → Prop} {pc : Nat} {ls : Array Slot} {rest : List Value}
theorem lw_arg {z : Int} (j : Nat) (hX : lw_X p s m meth c b L xs D K cL ρ1 ρ2) (hl : lw_L b ρ1 ρ2 w i ls) (hS : va_S (lw_A s) s.heap H locs) (hz : Int32.ofInt z = nI j) (hi : i + j < L) (d0 : decode code pc = .ok (.aload_n 0, 1)) (d1 : decode code (pc + 1) = .ok (.iload 4, 2)) (d3 : decode code (pc + 3) = .ok (.iconst z, 1)) (d4 : decode code (pc + 4) = .ok (.iadd, 1)) (d5 : decode code (pc + 5) = .ok (.iaload, 1))
    (k : W p l e room_1 s m #[Value.ref b] below meth c H locs cells slots Ψ (F0 m (pc + 6) ls (.int (xs (i + j)) :: rest))) : W p l e room_1 s m #[Value.ref b] below meth c H locs cells slots Ψ (F0 m pc ls rest) := by
  have hx := hX.1.1
  have hb := hX.1.2.1
  have hL := hX.2.2.2.2.2.2.2
  refine lv_aload_n hx hb d0 rfl (lv_at hl 0 rfl) ?_
  refine lv_iload hx hb d1 (lv_at hl 4 rfl) ?_
  refine lv_iconst hx hb d3 hz ?_
  refine lv_iadd hx hb d4 ?_
  have e1 : nI i + nI j = nI (i + j) := by unfold nI; rw [← Int32.ofNat_add]
  rw [e1]
  refine va_sld hx hb hX.2.2.2.2.2.1 hX.2.2.2.2.2.2.1 (fun q => absurd hX.2.2.2.2.2.2.1 (Nat.not_lt.mpr q)) hS (nI_in hi (by omega)) d5 ?_
  rw [nI_clamp (by omega)]
  exact k
end LWR
