/-! the law: what stands at its entry, and a number of the script (written by gen/lawgen.py) -/
def LA (p : Program) (s : State) (m : MethodId) (c : Code) (b L : Nat) (xs : Nat → Int32) (G : kG) : Prop := CallFix p m c code 4 s #[Value.ref b] lw_tbl RL ∧ va_X b L xs s s.heap ∧ b < s.heap.size ∧ va_K G.1 vwCl (kty G) s ∧ kN s
set_option maxHeartbeats 4000000 in
theorem law_ld {p : Program} {e : Env} {s : State} {m : MethodId} {below : List Frame} {meth : Method} {c : Code} {l : Launch} {G : kG} {b L : Nat} {xs : Nat → Int32} (C0 : LA p s m c b L xs G) (hL : L ≤ 320) {l0 x0 i : Nat} {H : Heap} {locs : List Loc} {ls : Array Slot} {cells slots : Nat} {Q : State → Prop} (hS : va_S (fun q : Nat => s.heap.size ≤ q) s.heap H locs) (hl : lv_has ls 4 [(3, .int (nI i)), (1, .ref l0), (2, .ref x0), (0, .ref b)])
    {k : Nat} (hk : i + k < L) {n : Int} (hn : Int32.ofInt n = nI k) {pc : Nat} (d0 : decode code pc = .ok (.aload_n 0, 1)) (d1 : decode code (pc + 1) = .ok (.iload_n 3, 1)) (d2 : decode code (pc + 1 + 1) = .ok (.iconst n, 1)) (d3 : decode code (pc + 1 + 1 + 1) = .ok (.iadd, 1)) (d4 : decode code (pc + 1 + 1 + 1 + 1) = .ok (.iaload, 1)) {rest : List Value}
    (kk : W p l e room_1 s m #[Value.ref b] below meth c H locs cells slots Q (F0 m (pc + 1 + 1 + 1 + 1 + 1) ls (.int (xs (i + k)) :: rest))) : W p l e room_1 s m #[Value.ref b] below meth c H locs cells slots Q (F0 m pc ls rest) := by
  obtain ⟨Fx, hX, hbl, hK, hN⟩ := id C0
  obtain ⟨hx, hb, hml, hown, hts⟩ := id Fx
  have hbA : ¬ (fun q : Nat => s.heap.size ≤ q) b := Nat.not_le.mpr hbl
  refine lv_aload_n hx hb d0 rfl (lv_at hl 3 rfl) ?_
  refine lv_iload_n hx hb d1 rfl (lv_at hl 0 rfl) ?_
  refine lv_iconst (v := nI k) hx hb d2 hn ?_
  refine lv_iadd hx hb d3 ?_
  rw [nI_add]
  refine va_sld hx hb hX hbl hbA hS (nI_in hk (by omega)) d4 ?_
  rw [nI_clamp (by omega)]
  exact kk
