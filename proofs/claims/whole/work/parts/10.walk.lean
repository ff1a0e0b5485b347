abbrev rmX7_bit : Room := { frames := 0, cells := 0, slots := 0, locals := 0 }
set_option maxHeartbeats 4000000 in
set_option maxRecDepth 100000 in
theorem MX7_bit (l : Launch) (G : kG) (a0 : Int32) (a1 : Int32) {K : Int64 → Prop} (h : wpX7_bit a0 a1 K) : kL l G yX7_bit wsX7_bit rmX7_bit [.int a0, .int a1] [] (S := Unit) (fun _ => []) (fun r u => K r) 0 0 := by
  refine kL_of (cc := cX7_bit) (maxL := 2) (by decide) rfl (Nat.le_of_ble_eq_true rfl) ?_
  intro p e s m below meth c Q A ls Fx hK hN hA hnm hret hP hD hl hS
  obtain ⟨hx, hb, hml, hown, hts⟩ := id Fx
  have hown : s.vm.findClass RX7 = some m.cls := hown
  have hl : lv_has ls 2 [(0, .int a0), (1, .int a1)] := hl
  unfold wpX7_bit at h
  refine lv_lconst (v := 1) hx hb dX7_bit_0 (by decide) ?_
  refine lv_bipush (v := 6) hx hb dX7_bit_1 (by decide) ?_
  refine lv_iload_n hx hb dX7_bit_3 rfl (lv_at hl 1 rfl) ?_
  refine lv_imul hx hb dX7_bit_4 ?_
  refine lv_iload_n hx hb dX7_bit_5 rfl (lv_at hl 0 rfl) ?_
  refine lv_iadd hx hb dX7_bit_6 ?_
  refine lv_lshl (v := (1 <<< ((Int32.toInt64 ((6 * a1) + a0)) &&& 63))) hx hb dX7_bit_7 rfl ?_
  exact hret _ _ _ _ _ () dX7_bit_8 h hP hD hS

abbrev rmX7_callers : Room := { frames := 0, cells := 0, slots := 0, locals := 0 }
set_option maxHeartbeats 4000000 in
set_option maxRecDepth 100000 in
theorem MX7_callers (l : Launch) (G : kG) (a0 : Int64) (a2 : Int32) {K : Int32 → Prop} (h : wpX7_callers a0 a2 K) : kI l G yX7_callers wsX7_callers rmX7_callers [.long a0, .int a2] [] (S := Unit) (fun _ => []) (fun r u => K r) 0 0 := by
  refine kI_of (cc := cX7_callers) (maxL := 3) (ret := .int) (by decide) rfl (Nat.le_of_ble_eq_true rfl) ?_
  intro p e s m below meth c Q A ls Fx hK hN hA hnm hret hP hD hl hS
  obtain ⟨hx, hb, hml, hown, hts⟩ := id Fx
  have hown : s.vm.findClass RX7 = some m.cls := hown
  have hl : lv_has ls 3 [(0, .long a0), (2, .int a2)] := hl
  unfold wpX7_callers at h
  refine lv_lload_n hx hb dX7_callers_0 rfl (lv_at hl 0 rfl) ?_
  refine lv_bipush (v := 6) hx hb dX7_callers_1 (by decide) ?_
  refine lv_iload_n hx hb dX7_callers_3 rfl (lv_at hl 1 rfl) ?_
  refine lv_imul hx hb dX7_callers_4 ?_
  refine lv_lushr (v := (a0.toUInt64 >>> ((Int32.toInt64 (6 * a2)).toUInt64 &&& Int64.toUInt64 63)).toInt64) hx hb dX7_callers_5 rfl ?_
  refine lv_l2i (v := (Int64.toInt32 ((a0.toUInt64 >>> ((Int32.toInt64 (6 * a2)).toUInt64 &&& Int64.toUInt64 63)).toInt64))) hx hb dX7_callers_6 rfl ?_
  refine lv_bipush (v := 63) hx hb dX7_callers_7 (by decide) ?_
  refine lv_iand hx hb dX7_callers_9 ?_
  exact hret _ _ _ _ _ () rfl dX7_callers_10 h hP hD hS

abbrev rmX1_lowest : Room := { frames := 0, cells := 0, slots := 0, locals := 0 }
set_option maxHeartbeats 4000000 in
set_option maxRecDepth 100000 in
theorem MX1_lowest (l : Launch) (G : kG) (a0 : Int32) {K : Int32 → Prop} (h : wpX1_lowest a0 K) : kI l G yX1_lowest wsX1_lowest rmX1_lowest [.int a0] [] (S := Unit) (fun _ => []) (fun r u => K r) 0 0 := by
  refine kI_of (cc := cX1_lowest) (maxL := 2) (ret := .int) (by decide) rfl (Nat.le_of_ble_eq_true rfl) ?_
  intro p e s m below meth c Q A ls Fx hK hN hA hnm hret hP hD hl hS
  obtain ⟨hx, hb, hml, hown, hts⟩ := id Fx
  have hown : s.vm.findClass RX1 = some m.cls := hown
  have hl : lv_has ls 2 [(0, .int a0)] := hl
  unfold wpX1_lowest at h
  refine lv_iconst (v := 0) hx hb dX1_lowest_0 (by decide) ?_
  refine lv_istore_n (lv' := [(1, .int 0), (0, .int a0)]) hx hb dX1_lowest_1 rfl hl (by decide) rfl (fun ls hl => ?_)
  have h := h (fun (v_1 : Int32) => ∀ (H : Heap) (locs : List Loc) (ls : Array Slot), va_P G.1 vwCl [] H → va_D A [] → va_S A s.heap H locs → lv_has ls 2 [(0, .int a0), (1, .int v_1)] → W p l e rmX1_lowest s m [.int a0].toArray below meth c H locs 0 0 Q (F0 m 2 ls []))
  have h := h (fun v_1 h H locs ls hP hD hS hl => by
    refine lv_iload_n hx hb dX1_lowest_2 rfl (lv_at hl 1 rfl) ?_
    refine lv_bipush (v := 8) hx hb dX1_lowest_3 (by decide) ?_
    refine lv_icmp_ge (tgt := 24) hx hb dX1_lowest_5 (by decide) (fun hc => ?_) (fun hc => ?_)
    · have h := wp_t h hc
      refine lv_iconst (v := 0) hx hb dX1_lowest_24 (by decide) ?_
      exact hret _ _ _ _ _ () rfl dX1_lowest_25 h hP hD hS
    · have h := wp_f h hc
      refine lv_iload_n hx hb dX1_lowest_8 rfl (lv_at hl 0 rfl) ?_
      refine lv_iconst (v := 1) hx hb dX1_lowest_9 (by decide) ?_
      refine lv_iload_n hx hb dX1_lowest_10 rfl (lv_at hl 1 rfl) ?_
      refine lv_ishl hx hb dX1_lowest_11 ?_
      refine lv_iand hx hb dX1_lowest_12 ?_
      refine lv_if_eq (tgt := 18) hx hb dX1_lowest_13 (by decide) (fun hc => ?_) (fun hc => ?_)
      · have h := wp_t h hc
        refine lv_iinc (v := (v_1 + 1)) (lv' := [(1, .int (v_1 + 1)), (0, .int a0)]) hx hb dX1_lowest_18 hl (k := 1) rfl rfl (by decide) rfl (fun ls hl => ?_)
        refine lv_goto (tgt := 2) hx hb dX1_lowest_21 (by decide) ?_
        exact h _ _ _ hP hD hS (lv_sub hl [1, 0] rfl)
      · have h := wp_f h hc
        refine lv_iload_n hx hb dX1_lowest_16 rfl (lv_at hl 1 rfl) ?_
        exact hret _ _ _ _ _ () rfl dX1_lowest_17 h hP hD hS)
  exact h _ _ _ hP hD hS (lv_sub hl [1, 0] rfl)

abbrev rmX1_shown : Room := { frames := 0, cells := 0, slots := 0, locals := 0 }
set_option maxHeartbeats 4000000 in
set_option maxRecDepth 100000 in
theorem MX1_shown (l : Launch) (G : kG) (a0 : Int32) {K : Int32 → Prop} (h : wpX1_shown a0 K) : kI l G yX1_shown wsX1_shown rmX1_shown [.int a0] [] (S := Unit) (fun _ => []) (fun r u => K r) 0 0 := by
  refine kI_of (cc := cX1_shown) (maxL := 1) (ret := .int) (by decide) rfl (Nat.le_of_ble_eq_true rfl) ?_
  intro p e s m below meth c Q A ls Fx hK hN hA hnm hret hP hD hl hS
  obtain ⟨hx, hb, hml, hown, hts⟩ := id Fx
  have hown : s.vm.findClass RX1 = some m.cls := hown
  have hl : lv_has ls 1 [(0, .int a0)] := hl
  unfold wpX1_shown at h
  refine lv_bipush (v := 10) hx hb dX1_shown_0 (by decide) ?_
  refine lv_iload_n hx hb dX1_shown_2 rfl (lv_at hl 0 rfl) ?_
  refine lv_bipush (v := 8) hx hb dX1_shown_3 (by decide) ?_
  refine lv_idiv hx hb dX1_shown_5 (by decide) ?_
  refine lv_imul hx hb dX1_shown_6 ?_
  refine lv_iload_n hx hb dX1_shown_7 rfl (lv_at hl 0 rfl) ?_
  refine lv_bipush (v := 8) hx hb dX1_shown_8 (by decide) ?_
  refine lv_irem hx hb dX1_shown_10 (by decide) ?_
  refine lv_iadd hx hb dX1_shown_11 ?_
  exact hret _ _ _ _ _ () rfl dX1_shown_12 h hP hD hS

abbrev rmX6_numbersOf : Room := { frames := 0, cells := 0, slots := 0, locals := 0 }
set_option maxHeartbeats 4000000 in
set_option maxRecDepth 100000 in
theorem MX6_numbersOf (l : Launch) (G : kG) (a0 : Int32) {K : Int32 → Prop} (h : wpX6_numbersOf a0 K) : kI l G yX6_numbersOf wsX6_numbersOf rmX6_numbersOf [.int a0] [] (S := Unit) (fun _ => []) (fun r u => K r) 0 0 := by
  refine kI_of (cc := cX6_numbersOf) (maxL := 1) (ret := .int) (by decide) rfl (Nat.le_of_ble_eq_true rfl) ?_
  intro p e s m below meth c Q A ls Fx hK hN hA hnm hret hP hD hl hS
  obtain ⟨hx, hb, hml, hown, hts⟩ := id Fx
  have hown : s.vm.findClass RX6 = some m.cls := hown
  have hl : lv_has ls 1 [(0, .int a0)] := hl
  unfold wpX6_numbersOf at h
  refine lv_iload_n hx hb dX6_numbersOf_0 rfl (lv_at hl 0 rfl) ?_
  by_cases c1_0 : a0 = 99
  · have h := wp_t h c1_0
    refine lv_lookup (tgt := 48) hx hb dX6_numbersOf_1 rfl (by rw [c1_0] <;> rfl) (by decide) ?_
    refine lv_iconst (v := 3) hx hb dX6_numbersOf_48 (by decide) ?_
    exact hret _ _ _ _ _ () rfl dX6_numbersOf_49 h hP hD hS
  have h := wp_f h c1_0
  by_cases c1_1 : a0 = 110
  · have h := wp_t h c1_1
    refine lv_lookup (tgt := 46) hx hb dX6_numbersOf_1 rfl (by rw [c1_1] <;> rfl) (by decide) ?_
    refine lv_iconst (v := 2) hx hb dX6_numbersOf_46 (by decide) ?_
    exact hret _ _ _ _ _ () rfl dX6_numbersOf_47 h hP hD hS
  have h := wp_f h c1_1
  by_cases c1_2 : a0 = 112
  · have h := wp_t h c1_2
    refine lv_lookup (tgt := 44) hx hb dX6_numbersOf_1 rfl (by rw [c1_2] <;> rfl) (by decide) ?_
    refine lv_iconst (v := 3) hx hb dX6_numbersOf_44 (by decide) ?_
    exact hret _ _ _ _ _ () rfl dX6_numbersOf_45 h hP hD hS
  have h := wp_f h c1_2
  by_cases c1_3 : a0 = 113
  · have h := wp_t h c1_3
    refine lv_lookup (tgt := 50) hx hb dX6_numbersOf_1 rfl (by rw [c1_3] <;> rfl) (by decide) ?_
    refine lv_iconst (v := 1) hx hb dX6_numbersOf_50 (by decide) ?_
    exact hret _ _ _ _ _ () rfl dX6_numbersOf_51 h hP hD hS
  have h := wp_f h c1_3
  have n1_0 : ¬ (99 : Int) = (a0).toInt := fun q => c1_0 (Int32.toInt_inj.mp (q.symm.trans rfl))
  have n1_1 : ¬ (110 : Int) = (a0).toInt := fun q => c1_1 (Int32.toInt_inj.mp (q.symm.trans rfl))
  have n1_2 : ¬ (112 : Int) = (a0).toInt := fun q => c1_2 (Int32.toInt_inj.mp (q.symm.trans rfl))
  have n1_3 : ¬ (113 : Int) = (a0).toInt := fun q => c1_3 (Int32.toInt_inj.mp (q.symm.trans rfl))
  refine lv_lookup (off := 51) (tgt := 52) hx hb dX6_numbersOf_1 rfl (by simp [Op.lookupswitch.offset, n1_0, n1_1, n1_2, n1_3]) (by decide) ?_
  refine lv_iconst (v := 0) hx hb dX6_numbersOf_52 (by decide) ?_
  exact hret _ _ _ _ _ () rfl dX6_numbersOf_53 h hP hD hS

abbrev rmX8_within : Room := { frames := 0, cells := 0, slots := 0, locals := 0 }
set_option maxHeartbeats 4000000 in
set_option maxRecDepth 100000 in
theorem MX8_within (l : Launch) (G : kG) (a0 : Int32) (a1 : Int32) (a2 : Int32) {K : Int32 → Prop} (h : wpX8_within a0 a1 a2 K) : kI l G yX8_within wsX8_within rmX8_within [.int a0, .int a1, .int a2] [] (S := Unit) (fun _ => []) (fun r u => K r) 0 0 := by
  refine kI_of (cc := cX8_within) (maxL := 3) (ret := .boolean) (by decide) rfl (Nat.le_of_ble_eq_true rfl) ?_
  intro p e s m below meth c Q A ls Fx hK hN hA hnm hret hP hD hl hS
  obtain ⟨hx, hb, hml, hown, hts⟩ := id Fx
  have hown : s.vm.findClass RX8 = some m.cls := hown
  have hl : lv_has ls 3 [(0, .int a0), (1, .int a1), (2, .int a2)] := hl
  unfold wpX8_within at h
  refine lv_iload_n hx hb dX8_within_0 rfl (lv_at hl 1 rfl) ?_
  refine lv_iload_n hx hb dX8_within_1 rfl (lv_at hl 0 rfl) ?_
  refine lv_icmp_gt (tgt := 14) hx hb dX8_within_2 (by decide) (fun hc => ?_) (fun hc => ?_)
  · have h := wp_t h hc
    refine lv_iconst (v := 0) hx hb dX8_within_14 (by decide) ?_
    exact hret _ _ _ _ _ () rfl dX8_within_15 h hP hD hS
  · have h := wp_f h hc
    refine lv_iload_n hx hb dX8_within_5 rfl (lv_at hl 0 rfl) ?_
    refine lv_iload_n hx hb dX8_within_6 rfl (lv_at hl 2 rfl) ?_
    refine lv_icmp_gt (tgt := 14) hx hb dX8_within_7 (by decide) (fun hc => ?_) (fun hc => ?_)
    · have h := wp_t h hc
      refine lv_iconst (v := 0) hx hb dX8_within_14 (by decide) ?_
      exact hret _ _ _ _ _ () rfl dX8_within_15 h hP hD hS
    · have h := wp_f h hc
      refine lv_iconst (v := 1) hx hb dX8_within_10 (by decide) ?_
      refine lv_goto (tgt := 15) hx hb dX8_within_11 (by decide) ?_
      exact hret _ _ _ _ _ () rfl dX8_within_15 h hP hD hS

abbrev rmX8_power : Room := { frames := 0, cells := 0, slots := 0, locals := 0 }
set_option maxHeartbeats 4000000 in
set_option maxRecDepth 100000 in
theorem MX8_power (l : Launch) (G : kG) (a0 : Int64) (a2 : Int32) {K : Int64 → Prop} (h : wpX8_power a0 a2 K) : kL l G yX8_power wsX8_power rmX8_power [.long a0, .int a2] [] (S := Unit) (fun _ => []) (fun r u => K r) 0 0 := by
  refine kL_of (cc := cX8_power) (maxL := 6) (by decide) rfl (Nat.le_of_ble_eq_true rfl) ?_
  intro p e s m below meth c Q A ls Fx hK hN hA hnm hret hP hD hl hS
  obtain ⟨hx, hb, hml, hown, hts⟩ := id Fx
  have hown : s.vm.findClass RX8 = some m.cls := hown
  have hl : lv_has ls 6 [(0, .long a0), (2, .int a2)] := hl
  unfold wpX8_power at h
  refine lv_lconst (v := 1) hx hb dX8_power_0 (by decide) ?_
  refine lv_lstore_n (lv' := [(3, .long 1), (0, .long a0), (2, .int a2)]) hx hb dX8_power_1 rfl hl (by decide) rfl (fun ls hl => ?_)
  refine lv_iconst (v := 0) hx hb dX8_power_2 (by decide) ?_
  refine lv_istore (lv' := [(5, .int 0), (3, .long 1), (0, .long a0), (2, .int a2)]) hx hb dX8_power_3 hl (by decide) rfl (fun ls hl => ?_)
  have h := h (fun (v_1 : Int64) (v_2 : Int32) => ∀ (H : Heap) (locs : List Loc) (ls : Array Slot), va_P G.1 vwCl [] H → va_D A [] → va_S A s.heap H locs → lv_has ls 6 [(0, .long a0), (2, .int a2), (3, .long v_1), (5, .int v_2)] → W p l e rmX8_power s m [.long a0, .int a2].toArray below meth c H locs 0 0 Q (F0 m 5 ls []))
  have h := h (fun v_1 v_2 h H locs ls hP hD hS hl => by
    refine lv_iload hx hb dX8_power_5 (lv_at hl 3 rfl) ?_
    refine lv_iload_n hx hb dX8_power_7 rfl (lv_at hl 1 rfl) ?_
    refine lv_icmp_ge (tgt := 21) hx hb dX8_power_8 (by decide) (fun hc => ?_) (fun hc => ?_)
    · have h := wp_t h hc
      refine lv_lload_n hx hb dX8_power_21 rfl (lv_at hl 2 rfl) ?_
      exact hret _ _ _ _ _ () dX8_power_22 h hP hD hS
    · have h := wp_f h hc
      refine lv_lload_n hx hb dX8_power_11 rfl (lv_at hl 2 rfl) ?_
      refine lv_lload_n hx hb dX8_power_12 rfl (lv_at hl 0 rfl) ?_
      refine lv_lmul hx hb dX8_power_13 ?_
      refine lv_topl (fun x_3 ex_3 => ?_)
      have h := h x_3 ex_3
      refine lv_lstore_n (lv' := [(3, .long x_3), (0, .long a0), (2, .int a2), (5, .int v_2)]) hx hb dX8_power_14 rfl hl (by decide) rfl (fun ls hl => ?_)
      refine lv_iinc (v := (v_2 + 1)) (lv' := [(5, .int (v_2 + 1)), (3, .long x_3), (0, .long a0), (2, .int a2)]) hx hb dX8_power_15 hl (k := 3) rfl rfl (by decide) rfl (fun ls hl => ?_)
      refine lv_goto (tgt := 5) hx hb dX8_power_18 (by decide) ?_
      exact h _ _ _ hP hD hS (lv_sub hl [2, 3, 1, 0] rfl))
  exact h _ _ _ hP hD hS (lv_sub hl [2, 3, 1, 0] rfl)

abbrev rmX8_greatestShared : Room := { frames := 0, cells := 0, slots := 0, locals := 0 }
set_option maxHeartbeats 4000000 in
set_option maxRecDepth 100000 in
theorem MX8_greatestShared (l : Launch) (G : kG) (a0 : Int64) (a2 : Int64) {K : Int64 → Prop} (h : wpX8_greatestShared a0 a2 K) : kL l G yX8_greatestShared wsX8_greatestShared rmX8_greatestShared [.long a0, .long a2] [] (S := Unit) (fun _ => []) (fun r u => K r) 0 0 := by
  refine kL_of (cc := cX8_greatestShared) (maxL := 11) (by decide) rfl (Nat.le_of_ble_eq_true rfl) ?_
  intro p e s m below meth c Q A ls Fx hK hN hA hnm hret hP hD hl hS
  obtain ⟨hx, hb, hml, hown, hts⟩ := id Fx
  have hown : s.vm.findClass RX8 = some m.cls := hown
  have hl : lv_has ls 11 [(0, .long a0), (2, .long a2)] := hl
  unfold wpX8_greatestShared at h
  refine lv_lload_n hx hb dX8_greatestShared_0 rfl (lv_at hl 0 rfl) ?_
  refine lv_lstore (lv' := [(4, .long a0), (0, .long a0), (2, .long a2)]) hx hb dX8_greatestShared_1 hl (by decide) rfl (fun ls hl => ?_)
  refine lv_lload_n hx hb dX8_greatestShared_3 rfl (lv_at hl 2 rfl) ?_
  refine lv_lstore (lv' := [(6, .long a2), (4, .long a0), (0, .long a0), (2, .long a2)]) hx hb dX8_greatestShared_4 hl (by decide) rfl (fun ls hl => ?_)
  refine lv_iconst (v := 0) hx hb dX8_greatestShared_6 (by decide) ?_
  refine lv_istore (lv' := [(8, .int 0), (6, .long a2), (4, .long a0), (0, .long a0), (2, .long a2)]) hx hb dX8_greatestShared_7 hl (by decide) rfl (fun ls hl => ?_)
  have h := h (fun (v_1 : Int64) (v_2 : Int64) (v_3 : Int32) => ∀ (H : Heap) (locs : List Loc) (ls : Array Slot), va_P G.1 vwCl [] H → va_D A [] → va_S A s.heap H locs → lv_has ls 11 [(4, .long v_1), (6, .long v_2), (8, .int v_3)] → W p l e rmX8_greatestShared s m [.long a0, .long a2].toArray below meth c H locs 0 0 Q (F0 m 9 ls []))
  have h := h (fun v_1 v_2 v_3 h H locs ls hP hD hS hl => by
    refine lv_iload hx hb dX8_greatestShared_9 (lv_at hl 2 rfl) ?_
    refine lv_sipush (v := 1000) hx hb dX8_greatestShared_11 (by decide) ?_
    refine lv_icmp_ge (tgt := 45) hx hb dX8_greatestShared_14 (by decide) (fun hc => ?_) (fun hc => ?_)
    · have h := wp_t h hc
      refine lv_lload hx hb dX8_greatestShared_45 (lv_at hl 0 rfl) ?_
      exact hret _ _ _ _ _ () dX8_greatestShared_47 h hP hD hS
    · have h := wp_f h hc
      refine lv_lload hx hb dX8_greatestShared_17 (lv_at hl 1 rfl) ?_
      refine lv_lconst (v := 0) hx hb dX8_greatestShared_19 (by decide) ?_
      refine W.lcmp hx hb dX8_greatestShared_20 ?_
      refine lv_if_eq (tgt := 45) hx hb dX8_greatestShared_21 (by decide) (fun hc => ?_) (fun hc => ?_)
      · have h := wp_t h hc
        refine lv_lload hx hb dX8_greatestShared_45 (lv_at hl 0 rfl) ?_
        exact hret _ _ _ _ _ () dX8_greatestShared_47 h hP hD hS
      · have h := wp_f h hc
        refine lv_lload hx hb dX8_greatestShared_24 (lv_at hl 0 rfl) ?_
        refine lv_lload hx hb dX8_greatestShared_26 (lv_at hl 1 rfl) ?_
        obtain ⟨hne, h⟩ := h
        refine lv_lrem hx hb dX8_greatestShared_28 hne ?_
        refine lv_topl (fun x_4 ex_4 => ?_)
        have h := h x_4 ex_4
        refine lv_lstore (lv' := [(9, .long x_4), (4, .long v_1), (6, .long v_2), (8, .int v_3)]) hx hb dX8_greatestShared_29 hl (by decide) rfl (fun ls hl => ?_)
        refine lv_lload hx hb dX8_greatestShared_31 (lv_at hl 2 rfl) ?_
        refine lv_lstore (lv' := [(4, .long v_2), (9, .long x_4), (6, .long v_2), (8, .int v_3)]) hx hb dX8_greatestShared_33 hl (by decide) rfl (fun ls hl => ?_)
        refine lv_lload hx hb dX8_greatestShared_35 (lv_at hl 1 rfl) ?_
        refine lv_lstore (lv' := [(6, .long x_4), (4, .long v_2), (9, .long x_4), (8, .int v_3)]) hx hb dX8_greatestShared_37 hl (by decide) rfl (fun ls hl => ?_)
        refine lv_iinc (v := (v_3 + 1)) (lv' := [(8, .int (v_3 + 1)), (6, .long x_4), (4, .long v_2), (9, .long x_4)]) hx hb dX8_greatestShared_39 hl (k := 3) rfl rfl (by decide) rfl (fun ls hl => ?_)
        refine lv_goto (tgt := 9) hx hb dX8_greatestShared_42 (by decide) ?_
        exact h _ _ _ hP hD hS (lv_sub hl [2, 1, 0] rfl))
  exact h _ _ _ hP hD hS (lv_sub hl [2, 1, 0] rfl)

abbrev rmX9_in : Room := { frames := 0, cells := 0, slots := 0, locals := 0 }
set_option maxHeartbeats 4000000 in
set_option maxRecDepth 100000 in
theorem MX9_in (l : Launch) (G : kG) (a0 : Int32) (a1 : Int32) (a2 : Int32) {K : Int32 → Prop} (h : wpX9_in a0 a1 a2 K) : kI l G yX9_in wsX9_in rmX9_in [.int a0, .int a1, .int a2] [] (S := Unit) (fun _ => []) (fun r u => K r) 0 0 := by
  refine kI_of (cc := cX9_in) (maxL := 3) (ret := .boolean) (by decide) rfl (Nat.le_of_ble_eq_true rfl) ?_
  intro p e s m below meth c Q A ls Fx hK hN hA hnm hret hP hD hl hS
  obtain ⟨hx, hb, hml, hown, hts⟩ := id Fx
  have hown : s.vm.findClass RX9 = some m.cls := hown
  have hl : lv_has ls 3 [(0, .int a0), (1, .int a1), (2, .int a2)] := hl
  unfold wpX9_in at h
  refine lv_iload_n hx hb dX9_in_0 rfl (lv_at hl 0 rfl) ?_
  refine lv_iload_n hx hb dX9_in_1 rfl (lv_at hl 1 rfl) ?_
  refine lv_icmp_lt (tgt := 14) hx hb dX9_in_2 (by decide) (fun hc => ?_) (fun hc => ?_)
  · have h := wp_t h hc
    refine lv_iconst (v := 0) hx hb dX9_in_14 (by decide) ?_
    exact hret _ _ _ _ _ () rfl dX9_in_15 h hP hD hS
  · have h := wp_f h hc
    refine lv_iload_n hx hb dX9_in_5 rfl (lv_at hl 0 rfl) ?_
    refine lv_iload_n hx hb dX9_in_6 rfl (lv_at hl 2 rfl) ?_
    refine lv_icmp_gt (tgt := 14) hx hb dX9_in_7 (by decide) (fun hc => ?_) (fun hc => ?_)
    · have h := wp_t h hc
      refine lv_iconst (v := 0) hx hb dX9_in_14 (by decide) ?_
      exact hret _ _ _ _ _ () rfl dX9_in_15 h hP hD hS
    · have h := wp_f h hc
      refine lv_iconst (v := 1) hx hb dX9_in_10 (by decide) ?_
      refine lv_goto (tgt := 15) hx hb dX9_in_11 (by decide) ?_
      exact hret _ _ _ _ _ () rfl dX9_in_15 h hP hD hS

abbrev rmX9_ones : Room := { frames := 0, cells := 0, slots := 0, locals := 0 }
set_option maxHeartbeats 4000000 in
set_option maxRecDepth 100000 in
theorem MX9_ones (l : Launch) (G : kG) (a0 : Int32) {K : Int32 → Prop} (h : wpX9_ones a0 K) : kI l G yX9_ones wsX9_ones rmX9_ones [.int a0] [] (S := Unit) (fun _ => []) (fun r u => K r) 0 0 := by
  refine kI_of (cc := cX9_ones) (maxL := 3) (ret := .int) (by decide) rfl (Nat.le_of_ble_eq_true rfl) ?_
  intro p e s m below meth c Q A ls Fx hK hN hA hnm hret hP hD hl hS
  obtain ⟨hx, hb, hml, hown, hts⟩ := id Fx
  have hown : s.vm.findClass RX9 = some m.cls := hown
  have hl : lv_has ls 3 [(0, .int a0)] := hl
  unfold wpX9_ones at h
  refine lv_iconst (v := 0) hx hb dX9_ones_0 (by decide) ?_
  refine lv_istore_n (lv' := [(1, .int 0), (0, .int a0)]) hx hb dX9_ones_1 rfl hl (by decide) rfl (fun ls hl => ?_)
  refine lv_iconst (v := 0) hx hb dX9_ones_2 (by decide) ?_
  refine lv_istore_n (lv' := [(2, .int 0), (1, .int 0), (0, .int a0)]) hx hb dX9_ones_3 rfl hl (by decide) rfl (fun ls hl => ?_)
  have h := h (fun (v_1 : Int32) (v_2 : Int32) => ∀ (H : Heap) (locs : List Loc) (ls : Array Slot), va_P G.1 vwCl [] H → va_D A [] → va_S A s.heap H locs → lv_has ls 3 [(0, .int a0), (1, .int v_1), (2, .int v_2)] → W p l e rmX9_ones s m [.int a0].toArray below meth c H locs 0 0 Q (F0 m 4 ls []))
  have h := h (fun v_1 v_2 h H locs ls hP hD hS hl => by
    refine lv_iload_n hx hb dX9_ones_4 rfl (lv_at hl 2 rfl) ?_
    refine lv_bipush (v := 8) hx hb dX9_ones_5 (by decide) ?_
    refine lv_icmp_ge (tgt := 24) hx hb dX9_ones_7 (by decide) (fun hc => ?_) (fun hc => ?_)
    · have h := wp_t h hc
      refine lv_iload_n hx hb dX9_ones_24 rfl (lv_at hl 1 rfl) ?_
      exact hret _ _ _ _ _ () rfl dX9_ones_25 h hP hD hS
    · have h := wp_f h hc
      refine lv_iload_n hx hb dX9_ones_10 rfl (lv_at hl 1 rfl) ?_
      refine lv_iload_n hx hb dX9_ones_11 rfl (lv_at hl 0 rfl) ?_
      refine lv_iload_n hx hb dX9_ones_12 rfl (lv_at hl 2 rfl) ?_
      refine lv_ishr hx hb dX9_ones_13 ?_
      refine lv_iconst (v := 1) hx hb dX9_ones_14 (by decide) ?_
      refine lv_iand hx hb dX9_ones_15 ?_
      refine lv_iadd hx hb dX9_ones_16 ?_
      refine lv_topi (fun x_3 ex_3 => ?_)
      have h := h x_3 ex_3
      refine lv_istore_n (lv' := [(1, .int x_3), (0, .int a0), (2, .int v_2)]) hx hb dX9_ones_17 rfl hl (by decide) rfl (fun ls hl => ?_)
      refine lv_iinc (v := (v_2 + 1)) (lv' := [(2, .int (v_2 + 1)), (1, .int x_3), (0, .int a0)]) hx hb dX9_ones_18 hl (k := 2) rfl rfl (by decide) rfl (fun ls hl => ?_)
      refine lv_goto (tgt := 4) hx hb dX9_ones_21 (by decide) ?_
      exact h _ _ _ hP hD hS (lv_sub hl [2, 1, 0] rfl))
  exact h _ _ _ hP hD hS (lv_sub hl [2, 1, 0] rfl)

abbrev rmX9_isFigure : Room := { frames := 1, cells := 0, slots := 0, locals := 22 }
set_option maxHeartbeats 4000000 in
set_option maxRecDepth 100000 in
theorem MX9_isFigure (l : Launch) (G : kG) (a0 : Int32) {K : Int32 → Prop} (h : wpX9_isFigure a0 K) : kI l G yX9_isFigure wsX9_isFigure rmX9_isFigure [.int a0] [] (S := Unit) (fun _ => []) (fun r u => K r) 0 0 := by
  refine kI_of (cc := cX9_isFigure) (maxL := 1) (ret := .boolean) (by decide) rfl (Nat.le_of_ble_eq_true rfl) ?_
  intro p e s m below meth c Q A ls Fx hK hN hA hnm hret hP hD hl hS
  obtain ⟨hx, hb, hml, hown, hts⟩ := id Fx
  have hown : s.vm.findClass RX9 = some m.cls := hown
  have hl : lv_has ls 1 [(0, .int a0)] := hl
  unfold wpX9_isFigure at h
  refine lv_iload_n hx hb dX9_isFigure_0 rfl (lv_at hl 0 rfl) ?_
  refine lv_bipush (v := 48) hx hb dX9_isFigure_1 (by decide) ?_
  refine lv_bipush (v := 57) hx hb dX9_isFigure_3 (by decide) ?_
  refine kc_i (Wr := []) (va_runS (As := [.int a0, .int 48, .int 57]) (rest := []) Fx (MX9_in l G a0 48 57 h s.heap.size) (va_cwS 3 hts gX9_isFigure_X9_in rfl rfl rfl (by decide +kernel) ⟨Nat.le_of_ble_eq_true rfl, Nat.le_of_ble_eq_true rfl⟩) (kpreS hP hD hK hN [] rfl rfl) rfl rfl hl.1 rfl (lv_room (Nat.le_of_ble_eq_true rfl)) dX9_isFigure_5 ⟨Nat.le_of_ble_eq_true rfl, Nat.le_of_ble_eq_true rfl⟩) hP hD hS hA [] [] rfl rfl rfl (by decide +kernel) (fun r_1 u H locs h hP hD hS => ?_)
  have hP : va_P G.1 vwCl [] H := hP
  have hD : va_D A [] := hD
  exact hret _ _ _ _ _ () (kz h.1) dX9_isFigure_8 h.2 hP hD hS

abbrev rmJ6_bitCount_0f7a4 : Room := { frames := 0, cells := 0, slots := 0, locals := 0 }
set_option maxHeartbeats 4000000 in
set_option maxRecDepth 100000 in
theorem MJ6_bitCount_0f7a4 (l : Launch) (G : kG) (a0 : Int32) {K : Int32 → Prop} (h : wpJ6_bitCount_0f7a4 a0 K) : kI l G yJ6_bitCount_0f7a4 wsJ6_bitCount_0f7a4 rmJ6_bitCount_0f7a4 [.int a0] [] (S := Unit) (fun _ => []) (fun r u => K r) 0 0 := by
  refine kI_of (cc := cJ6_bitCount_0f7a4) (maxL := 1) (ret := .int) (by decide) rfl (Nat.le_of_ble_eq_true rfl) ?_
  intro p e s m below meth c Q A ls Fx hK hN hA hnm hret hP hD hl hS
  obtain ⟨hx, hb, hml, hown, hts⟩ := id Fx
  have hown : s.vm.findClass RJ6 = some m.cls := hown
  have hl : lv_has ls 1 [(0, .int a0)] := hl
  unfold wpJ6_bitCount_0f7a4 at h
  refine lv_iload_n hx hb dJ6_bitCount_0f7a4_0 rfl (lv_at hl 0 rfl) ?_
  refine lv_iload_n hx hb dJ6_bitCount_0f7a4_1 rfl (lv_at hl 0 rfl) ?_
  refine lv_iconst (v := 1) hx hb dJ6_bitCount_0f7a4_2 (by decide) ?_
  refine lv_iushr (v := (a0.toUInt32 >>> (Int32.toUInt32 1 &&& Int32.toUInt32 31)).toInt32) hx hb dJ6_bitCount_0f7a4_3 rfl ?_
  refine lv_ldcw (v := 1431655765) hx hb hown (hts (.constant RJ6 265 1431655765) (by decide +kernel)) dJ6_bitCount_0f7a4_4 ?_
  refine lv_iand hx hb dJ6_bitCount_0f7a4_7 ?_
  refine lv_isub hx hb dJ6_bitCount_0f7a4_8 ?_
  refine lv_topi (fun x_1 ex_1 => ?_)
  have h := h x_1 ex_1
  refine lv_istore_n (lv' := [(0, .int x_1)]) hx hb dJ6_bitCount_0f7a4_9 rfl hl (by decide) rfl (fun ls hl => ?_)
  refine lv_iload_n hx hb dJ6_bitCount_0f7a4_10 rfl (lv_at hl 0 rfl) ?_
  refine lv_ldcw (v := 858993459) hx hb hown (hts (.constant RJ6 266 858993459) (by decide +kernel)) dJ6_bitCount_0f7a4_11 ?_
  refine lv_iand hx hb dJ6_bitCount_0f7a4_14 ?_
  refine lv_iload_n hx hb dJ6_bitCount_0f7a4_15 rfl (lv_at hl 0 rfl) ?_
  refine lv_iconst (v := 2) hx hb dJ6_bitCount_0f7a4_16 (by decide) ?_
  refine lv_iushr (v := (x_1.toUInt32 >>> (Int32.toUInt32 2 &&& Int32.toUInt32 31)).toInt32) hx hb dJ6_bitCount_0f7a4_17 rfl ?_
  refine lv_ldcw (v := 858993459) hx hb hown (hts (.constant RJ6 266 858993459) (by decide +kernel)) dJ6_bitCount_0f7a4_18 ?_
  refine lv_iand hx hb dJ6_bitCount_0f7a4_21 ?_
  refine lv_iadd hx hb dJ6_bitCount_0f7a4_22 ?_
  refine lv_topi (fun x_2 ex_2 => ?_)
  have h := h x_2 ex_2
  refine lv_istore_n (lv' := [(0, .int x_2)]) hx hb dJ6_bitCount_0f7a4_23 rfl hl (by decide) rfl (fun ls hl => ?_)
  refine lv_iload_n hx hb dJ6_bitCount_0f7a4_24 rfl (lv_at hl 0 rfl) ?_
  refine lv_iload_n hx hb dJ6_bitCount_0f7a4_25 rfl (lv_at hl 0 rfl) ?_
  refine lv_iconst (v := 4) hx hb dJ6_bitCount_0f7a4_26 (by decide) ?_
  refine lv_iushr (v := (x_2.toUInt32 >>> (Int32.toUInt32 4 &&& Int32.toUInt32 31)).toInt32) hx hb dJ6_bitCount_0f7a4_27 rfl ?_
  refine lv_iadd hx hb dJ6_bitCount_0f7a4_28 ?_
  refine lv_ldcw (v := 252645135) hx hb hown (hts (.constant RJ6 267 252645135) (by decide +kernel)) dJ6_bitCount_0f7a4_29 ?_
  refine lv_iand hx hb dJ6_bitCount_0f7a4_32 ?_
  refine lv_topi (fun x_3 ex_3 => ?_)
  have h := h x_3 ex_3
  refine lv_istore_n (lv' := [(0, .int x_3)]) hx hb dJ6_bitCount_0f7a4_33 rfl hl (by decide) rfl (fun ls hl => ?_)
  refine lv_iload_n hx hb dJ6_bitCount_0f7a4_34 rfl (lv_at hl 0 rfl) ?_
  refine lv_iload_n hx hb dJ6_bitCount_0f7a4_35 rfl (lv_at hl 0 rfl) ?_
  refine lv_bipush (v := 8) hx hb dJ6_bitCount_0f7a4_36 (by decide) ?_
  refine lv_iushr (v := (x_3.toUInt32 >>> (Int32.toUInt32 8 &&& Int32.toUInt32 31)).toInt32) hx hb dJ6_bitCount_0f7a4_38 rfl ?_
  refine lv_iadd hx hb dJ6_bitCount_0f7a4_39 ?_
  refine lv_topi (fun x_4 ex_4 => ?_)
  have h := h x_4 ex_4
  refine lv_istore_n (lv' := [(0, .int x_4)]) hx hb dJ6_bitCount_0f7a4_40 rfl hl (by decide) rfl (fun ls hl => ?_)
  refine lv_iload_n hx hb dJ6_bitCount_0f7a4_41 rfl (lv_at hl 0 rfl) ?_
  refine lv_iload_n hx hb dJ6_bitCount_0f7a4_42 rfl (lv_at hl 0 rfl) ?_
  refine lv_bipush (v := 16) hx hb dJ6_bitCount_0f7a4_43 (by decide) ?_
  refine lv_iushr (v := (x_4.toUInt32 >>> (Int32.toUInt32 16 &&& Int32.toUInt32 31)).toInt32) hx hb dJ6_bitCount_0f7a4_45 rfl ?_
  refine lv_iadd hx hb dJ6_bitCount_0f7a4_46 ?_
  refine lv_topi (fun x_5 ex_5 => ?_)
  have h := h x_5 ex_5
  refine lv_istore_n (lv' := [(0, .int x_5)]) hx hb dJ6_bitCount_0f7a4_47 rfl hl (by decide) rfl (fun ls hl => ?_)
  refine lv_iload_n hx hb dJ6_bitCount_0f7a4_48 rfl (lv_at hl 0 rfl) ?_
  refine lv_bipush (v := 63) hx hb dJ6_bitCount_0f7a4_49 (by decide) ?_
  refine lv_iand hx hb dJ6_bitCount_0f7a4_51 ?_
  exact hret _ _ _ _ _ () rfl dJ6_bitCount_0f7a4_52 h hP hD hS

abbrev rmJ13_bitCount_95d88 : Room := { frames := 0, cells := 0, slots := 0, locals := 0 }
set_option maxHeartbeats 4000000 in
set_option maxRecDepth 100000 in
theorem MJ13_bitCount_95d88 (l : Launch) (G : kG) (a0 : Int64) {K : Int32 → Prop} (h : wpJ13_bitCount_95d88 a0 K) : kI l G yJ13_bitCount_95d88 wsJ13_bitCount_95d88 rmJ13_bitCount_95d88 [.long a0] [] (S := Unit) (fun _ => []) (fun r u => K r) 0 0 := by
  refine kI_of (cc := cJ13_bitCount_95d88) (maxL := 2) (ret := .int) (by decide) rfl (Nat.le_of_ble_eq_true rfl) ?_
  intro p e s m below meth c Q A ls Fx hK hN hA hnm hret hP hD hl hS
  obtain ⟨hx, hb, hml, hown, hts⟩ := id Fx
  have hown : s.vm.findClass RJ13 = some m.cls := hown
  have hl : lv_has ls 2 [(0, .long a0)] := hl
  unfold wpJ13_bitCount_95d88 at h
  refine lv_lload_n hx hb dJ13_bitCount_95d88_0 rfl (lv_at hl 0 rfl) ?_
  refine lv_lload_n hx hb dJ13_bitCount_95d88_1 rfl (lv_at hl 0 rfl) ?_
  refine lv_iconst (v := 1) hx hb dJ13_bitCount_95d88_2 (by decide) ?_
  refine lv_lushr (v := (a0.toUInt64 >>> ((Int32.toInt64 1).toUInt64 &&& Int64.toUInt64 63)).toInt64) hx hb dJ13_bitCount_95d88_3 rfl ?_
  refine lv_ldc2 (v := 6148914691236517205) hx hb hown (hts (.constantLong RJ13 314 6148914691236517205) (by decide +kernel)) dJ13_bitCount_95d88_4 ?_
  refine lv_land hx hb dJ13_bitCount_95d88_7 ?_
  refine lv_lsub hx hb dJ13_bitCount_95d88_8 ?_
  refine lv_topl (fun x_1 ex_1 => ?_)
  have h := h x_1 ex_1
  refine lv_lstore_n (lv' := [(0, .long x_1)]) hx hb dJ13_bitCount_95d88_9 rfl hl (by decide) rfl (fun ls hl => ?_)
  refine lv_lload_n hx hb dJ13_bitCount_95d88_10 rfl (lv_at hl 0 rfl) ?_
  refine lv_ldc2 (v := 3689348814741910323) hx hb hown (hts (.constantLong RJ13 316 3689348814741910323) (by decide +kernel)) dJ13_bitCount_95d88_11 ?_
  refine lv_land hx hb dJ13_bitCount_95d88_14 ?_
  refine lv_lload_n hx hb dJ13_bitCount_95d88_15 rfl (lv_at hl 0 rfl) ?_
  refine lv_iconst (v := 2) hx hb dJ13_bitCount_95d88_16 (by decide) ?_
  refine lv_lushr (v := (x_1.toUInt64 >>> ((Int32.toInt64 2).toUInt64 &&& Int64.toUInt64 63)).toInt64) hx hb dJ13_bitCount_95d88_17 rfl ?_
  refine lv_ldc2 (v := 3689348814741910323) hx hb hown (hts (.constantLong RJ13 316 3689348814741910323) (by decide +kernel)) dJ13_bitCount_95d88_18 ?_
  refine lv_land hx hb dJ13_bitCount_95d88_21 ?_
  refine lv_ladd hx hb dJ13_bitCount_95d88_22 ?_
  refine lv_topl (fun x_2 ex_2 => ?_)
  have h := h x_2 ex_2
  refine lv_lstore_n (lv' := [(0, .long x_2)]) hx hb dJ13_bitCount_95d88_23 rfl hl (by decide) rfl (fun ls hl => ?_)
  refine lv_lload_n hx hb dJ13_bitCount_95d88_24 rfl (lv_at hl 0 rfl) ?_
  refine lv_lload_n hx hb dJ13_bitCount_95d88_25 rfl (lv_at hl 0 rfl) ?_
  refine lv_iconst (v := 4) hx hb dJ13_bitCount_95d88_26 (by decide) ?_
  refine lv_lushr (v := (x_2.toUInt64 >>> ((Int32.toInt64 4).toUInt64 &&& Int64.toUInt64 63)).toInt64) hx hb dJ13_bitCount_95d88_27 rfl ?_
  refine lv_ladd hx hb dJ13_bitCount_95d88_28 ?_
  refine lv_ldc2 (v := 1085102592571150095) hx hb hown (hts (.constantLong RJ13 318 1085102592571150095) (by decide +kernel)) dJ13_bitCount_95d88_29 ?_
  refine lv_land hx hb dJ13_bitCount_95d88_32 ?_
  refine lv_topl (fun x_3 ex_3 => ?_)
  have h := h x_3 ex_3
  refine lv_lstore_n (lv' := [(0, .long x_3)]) hx hb dJ13_bitCount_95d88_33 rfl hl (by decide) rfl (fun ls hl => ?_)
  refine lv_lload_n hx hb dJ13_bitCount_95d88_34 rfl (lv_at hl 0 rfl) ?_
  refine lv_lload_n hx hb dJ13_bitCount_95d88_35 rfl (lv_at hl 0 rfl) ?_
  refine lv_bipush (v := 8) hx hb dJ13_bitCount_95d88_36 (by decide) ?_
  refine lv_lushr (v := (x_3.toUInt64 >>> ((Int32.toInt64 8).toUInt64 &&& Int64.toUInt64 63)).toInt64) hx hb dJ13_bitCount_95d88_38 rfl ?_
  refine lv_ladd hx hb dJ13_bitCount_95d88_39 ?_
  refine lv_topl (fun x_4 ex_4 => ?_)
  have h := h x_4 ex_4
  refine lv_lstore_n (lv' := [(0, .long x_4)]) hx hb dJ13_bitCount_95d88_40 rfl hl (by decide) rfl (fun ls hl => ?_)
  refine lv_lload_n hx hb dJ13_bitCount_95d88_41 rfl (lv_at hl 0 rfl) ?_
  refine lv_lload_n hx hb dJ13_bitCount_95d88_42 rfl (lv_at hl 0 rfl) ?_
  refine lv_bipush (v := 16) hx hb dJ13_bitCount_95d88_43 (by decide) ?_
  refine lv_lushr (v := (x_4.toUInt64 >>> ((Int32.toInt64 16).toUInt64 &&& Int64.toUInt64 63)).toInt64) hx hb dJ13_bitCount_95d88_45 rfl ?_
  refine lv_ladd hx hb dJ13_bitCount_95d88_46 ?_
  refine lv_topl (fun x_5 ex_5 => ?_)
  have h := h x_5 ex_5
  refine lv_lstore_n (lv' := [(0, .long x_5)]) hx hb dJ13_bitCount_95d88_47 rfl hl (by decide) rfl (fun ls hl => ?_)
  refine lv_lload_n hx hb dJ13_bitCount_95d88_48 rfl (lv_at hl 0 rfl) ?_
  refine lv_lload_n hx hb dJ13_bitCount_95d88_49 rfl (lv_at hl 0 rfl) ?_
  refine lv_bipush (v := 32) hx hb dJ13_bitCount_95d88_50 (by decide) ?_
  refine lv_lushr (v := (x_5.toUInt64 >>> ((Int32.toInt64 32).toUInt64 &&& Int64.toUInt64 63)).toInt64) hx hb dJ13_bitCount_95d88_52 rfl ?_
  refine lv_ladd hx hb dJ13_bitCount_95d88_53 ?_
  refine lv_topl (fun x_6 ex_6 => ?_)
  have h := h x_6 ex_6
  refine lv_lstore_n (lv' := [(0, .long x_6)]) hx hb dJ13_bitCount_95d88_54 rfl hl (by decide) rfl (fun ls hl => ?_)
  refine lv_lload_n hx hb dJ13_bitCount_95d88_55 rfl (lv_at hl 0 rfl) ?_
  refine lv_l2i (v := (Int64.toInt32 x_6)) hx hb dJ13_bitCount_95d88_56 rfl ?_
  refine lv_bipush (v := 127) hx hb dJ13_bitCount_95d88_57 (by decide) ?_
  refine lv_iand hx hb dJ13_bitCount_95d88_59 ?_
  exact hret _ _ _ _ _ () rfl dJ13_bitCount_95d88_60 h hP hD hS

abbrev rmX8_at_ : Room := { frames := 0, cells := 0, slots := 0, locals := 0 }
set_option maxHeartbeats 4000000 in
set_option maxRecDepth 100000 in
theorem MX8_at_ (l : Launch) (G : kG) (r0 : Nat) (r_n : Nat) (r_f : Nat → Int64) (a1 : Int32) {K : Int64 → Prop} (h : wpX8_at_ r_n r_f a1 K) : kL l G yX8_at_ wsX8_at_ rmX8_at_ [.ref r0, .int a1] [(r0, .inl (G.2.2.1, r_n, .inr (.inl r_f)))] (S := Unit) (fun _ => [(r0, .inl (G.2.2.1, r_n, .inr (.inl r_f)))]) (fun r u => K r) 0 0 := by
  refine kL_of (cc := cX8_at_) (maxL := 2) (by decide) rfl (Nat.le_of_ble_eq_true rfl) ?_
  intro p e s m below meth c Q A ls Fx hK hN hA hnm hret hP hD hl hS
  obtain ⟨hx, hb, hml, hown, hts⟩ := id Fx
  have hown : s.vm.findClass RX8 = some m.cls := hown
  have hl : lv_has ls 2 [(0, .ref r0), (1, .int a1)] := hl
  unfold wpX8_at_ at h
  refine lv_aload_n hx hb dX8_at__0 rfl (lv_at hl 0 rfl) ?_
  have h := h (∀ (H : Heap) (locs : List Loc) (ls : Array Slot), va_P G.1 vwCl [(r0, .inl (G.2.2.1, r_n, .inr (.inl r_f)))] H → va_D A [(r0, .inl (G.2.2.1, r_n, .inr (.inl r_f)))] → va_S A s.heap H locs → lv_has ls 2 [] → W p l e rmX8_at_ s m [.ref r0, .int a1].toArray below meth c H locs 0 0 Q (F0 m 20 ls []))
  have h := h (fun  h H locs ls hP hD hS hl => by
    refine lv_lconst (v := 0) hx hb dX8_at__20 (by decide) ?_
    exact hret _ _ _ _ _ () dX8_at__21 h hP hD hS)
  refine lv_ifnull hx hb dX8_at__1 ?_
  refine lv_iload_n hx hb dX8_at__4 rfl (lv_at hl 1 rfl) ?_
  refine lv_if_lt (tgt := 20) hx hb dX8_at__5 (by decide) (fun hc => ?_) (fun hc => ?_)
  · have h := wp_t h hc
    exact h _ _ _ hP hD hS (lv_sub hl [] rfl)
  · have h := wp_f h hc
    refine lv_iload_n hx hb dX8_at__8 rfl (lv_at hl 1 rfl) ?_
    refine lv_aload_n hx hb dX8_at__9 rfl (lv_at hl 0 rfl) ?_
    refine va_alen hx hb hK hP 0 1 rfl rfl (v := (Int32.ofNat r_n)) rfl dX8_at__10 ?_
    refine lv_icmp_ge (tgt := 20) hx hb dX8_at__11 (by decide) (fun hc => ?_) (fun hc => ?_)
    · have h := wp_t h hc
      exact h _ _ _ hP hD hS (lv_sub hl [] rfl)
    · have h := wp_f h hc
      refine lv_aload_n hx hb dX8_at__14 rfl (lv_at hl 0 rfl) ?_
      refine lv_iload_n hx hb dX8_at__15 rfl (lv_at hl 1 rfl) ?_
      obtain ⟨hin, h⟩ := h
      refine va_lald hx hb hK hP 0 1 rfl rfl hin dX8_at__16 ?_
      refine lv_goto (tgt := 21) hx hb dX8_at__17 (by decide) ?_
      exact hret _ _ _ _ _ () dX8_at__21 h hP hD hS

abbrev rmX7_about : Room := { frames := 1, cells := 0, slots := 0, locals := 21 }
set_option maxHeartbeats 4000000 in
set_option maxRecDepth 100000 in
theorem MX7_about (l : Launch) (G : kG) (w0 w1 : Nat) (w_rows : Nat → Int64) (a1 : Int32) {K : Int64 → Prop} (h : wpX7_about w_rows a1 K) : kL l G yX7_about wsX7_about rmX7_about [.ref w0, .int a1] [(w0, .inr (7, [.ref w1])), (w1, .inl (G.2.2.1, 6, .inr (.inl w_rows)))] (S := Unit) (fun _ => [(w0, .inr (7, [.ref w1])), (w1, .inl (G.2.2.1, 6, .inr (.inl w_rows)))]) (fun r u => K r) 0 0 := by
  refine kL_of (cc := cX7_about) (maxL := 2) (by decide) rfl (Nat.le_of_ble_eq_true rfl) ?_
  intro p e s m below meth c Q A ls Fx hK hN hA hnm hret hP hD hl hS
  obtain ⟨hx, hb, hml, hown, hts⟩ := id Fx
  have hown : s.vm.findClass RX7 = some m.cls := hown
  have hl : lv_has ls 2 [(0, .ref w0), (1, .int a1)] := hl
  have hiX7 : ∀ w ∈ u_ws RX7 TX7 1, w ∈ wsX7_about := by decide +kernel
  unfold wpX7_about at h
  refine lv_aload_n hx hb dX7_about_0 rfl (lv_at hl 0 rfl) ?_
  refine va_get (D := G.1) (ci := 7) (v := .ref w1) (C := RX7) (T := TX7) (N := 1) hx hb hts hiX7 hown hK hP 0 rfl rfl 0 (by decide) (hts (.fieldLink RX7 9 "LodgingNames$Words" "rows" "[J") (by decide +kernel)) (fun _ h9 => h9) rfl dX7_about_1 ?_
  refine lv_iload_n hx hb dX7_about_4 rfl (lv_at hl 1 rfl) ?_
  refine kc_l (Wr := [(w0, .inr (7, [.ref w1]))]) (va_runSN (As := [.ref w1, .int a1]) (rest := []) Fx (MX8_at_ l G w1 6 w_rows a1 h s.heap.size) ⟨va_cnB (host := RX8) 2 hts gX7_about_X8_at__n15 rfl rfl rfl (hN (.methodLinkNest RX7 15 yX8_at_ RX8) (by decide +kernel)) (hts (.initialized RX8) (by decide +kernel)) (by decide +kernel) ⟨Nat.le_of_ble_eq_true rfl, Nat.le_of_ble_eq_true rfl⟩, hts (.static yX8_at_) (by decide +kernel), trivial⟩ (kpreS hP hD hK hN [1] rfl rfl) rfl rfl hl.1 rfl (lv_room (Nat.le_of_ble_eq_true rfl)) dX7_about_5 ⟨Nat.le_of_ble_eq_true rfl, Nat.le_of_ble_eq_true rfl⟩) hP hD hS hA [1] [0] rfl rfl rfl (by decide +kernel) (fun r_1 u H locs h hP hD hS => ?_)
  have hP : va_P G.1 vwCl [(w0, .inr (7, [.ref w1])), (w1, .inl (G.2.2.1, 6, .inr (.inl w_rows)))] H := hP
  have hD : va_D A [(w0, .inr (7, [.ref w1])), (w1, .inl (G.2.2.1, 6, .inr (.inl w_rows)))] := hD
  exact hret _ _ _ _ _ () dX7_about_8 h hP hD hS

abbrev rmX7_has : Room := { frames := 1, cells := 0, slots := 0, locals := 21 }
set_option maxHeartbeats 4000000 in
set_option maxRecDepth 100000 in
theorem MX7_has (l : Launch) (G : kG) (w0 w1 : Nat) (w_rows : Nat → Int64) (a1 : Int32) (a2 : Int32) (a3 : Int32) {K : Int32 → Prop} (h : wpX7_has w_rows a1 a2 a3 K) : kI l G yX7_has wsX7_has rmX7_has [.ref w0, .int a1, .int a2, .int a3] [(w0, .inr (7, [.ref w1])), (w1, .inl (G.2.2.1, 6, .inr (.inl w_rows)))] (S := Unit) (fun _ => [(w0, .inr (7, [.ref w1])), (w1, .inl (G.2.2.1, 6, .inr (.inl w_rows)))]) (fun r u => K r) 0 0 := by
  refine kI_of (cc := cX7_has) (maxL := 4) (ret := .boolean) (by decide) rfl (Nat.le_of_ble_eq_true rfl) ?_
  intro p e s m below meth c Q A ls Fx hK hN hA hnm hret hP hD hl hS
  obtain ⟨hx, hb, hml, hown, hts⟩ := id Fx
  have hown : s.vm.findClass RX7 = some m.cls := hown
  have hl : lv_has ls 4 [(0, .ref w0), (1, .int a1), (2, .int a2), (3, .int a3)] := hl
  have hiX7 : ∀ w ∈ u_ws RX7 TX7 1, w ∈ wsX7_has := by decide +kernel
  unfold wpX7_has at h
  refine lv_aload_n hx hb dX7_has_0 rfl (lv_at hl 0 rfl) ?_
  refine va_get (D := G.1) (ci := 7) (v := .ref w1) (C := RX7) (T := TX7) (N := 1) hx hb hts hiX7 hown hK hP 0 rfl rfl 0 (by decide) (hts (.fieldLink RX7 9 "LodgingNames$Words" "rows" "[J") (by decide +kernel)) (fun _ h9 => h9) rfl dX7_has_1 ?_
  refine lv_iload_n hx hb dX7_has_4 rfl (lv_at hl 2 rfl) ?_
  refine kc_l (Wr := [(w0, .inr (7, [.ref w1]))]) (va_runSN (As := [.ref w1, .int a2]) (rest := []) Fx (MX8_at_ l G w1 6 w_rows a2 h s.heap.size) ⟨va_cnB (host := RX8) 2 hts gX7_has_X8_at__n15 rfl rfl rfl (hN (.methodLinkNest RX7 15 yX8_at_ RX8) (by decide +kernel)) (hts (.initialized RX8) (by decide +kernel)) (by decide +kernel) ⟨Nat.le_of_ble_eq_true rfl, Nat.le_of_ble_eq_true rfl⟩, hts (.static yX8_at_) (by decide +kernel), trivial⟩ (kpreS hP hD hK hN [1] rfl rfl) rfl rfl hl.1 rfl (lv_room (Nat.le_of_ble_eq_true rfl)) dX7_has_5 ⟨Nat.le_of_ble_eq_true rfl, Nat.le_of_ble_eq_true rfl⟩) hP hD hS hA [1] [0] rfl rfl rfl (by decide +kernel) (fun r_1 u H locs h hP hD hS => ?_)
  have hP : va_P G.1 vwCl [(w0, .inr (7, [.ref w1])), (w1, .inl (G.2.2.1, 6, .inr (.inl w_rows)))] H := hP
  have hD : va_D A [(w0, .inr (7, [.ref w1])), (w1, .inl (G.2.2.1, 6, .inr (.inl w_rows)))] := hD
  refine lv_iload_n hx hb dX7_has_8 rfl (lv_at hl 1 rfl) ?_
  refine lv_iload_n hx hb dX7_has_9 rfl (lv_at hl 3 rfl) ?_
  refine kc_l (Wr := [(w0, .inr (7, [.ref w1])), (w1, .inl (G.2.2.1, 6, .inr (.inl w_rows)))]) (va_runS (As := [.int a1, .int a3]) (rest := [.long r_1]) Fx (MX7_bit l G a1 a3 h H.size) (va_cwS 2 hts gX7_has_X7_bit rfl rfl rfl (by decide +kernel) ⟨Nat.le_of_ble_eq_true rfl, Nat.le_of_ble_eq_true rfl⟩) (kpreS hP hD hK hN [] rfl rfl) rfl rfl hl.1 rfl (lv_room (Nat.le_of_ble_eq_true rfl)) dX7_has_10 ⟨Nat.le_of_ble_eq_true rfl, Nat.le_of_ble_eq_true rfl⟩) hP hD hS hA [] [0, 1] rfl rfl rfl (by decide +kernel) (fun r_2 u H locs h hP hD hS => ?_)
  have hP : va_P G.1 vwCl [(w0, .inr (7, [.ref w1])), (w1, .inl (G.2.2.1, 6, .inr (.inl w_rows)))] H := hP
  have hD : va_D A [(w0, .inr (7, [.ref w1])), (w1, .inl (G.2.2.1, 6, .inr (.inl w_rows)))] := hD
  refine lv_land hx hb dX7_has_13 ?_
  refine lv_lconst (v := 0) hx hb dX7_has_14 (by decide) ?_
  refine W.lcmp hx hb dX7_has_15 ?_
  refine lv_if_eq (tgt := 23) hx hb dX7_has_16 (by decide) (fun hc => ?_) (fun hc => ?_)
  · have h := wp_t h hc
    refine lv_iconst (v := 0) hx hb dX7_has_23 (by decide) ?_
    exact hret _ _ _ _ _ () rfl dX7_has_24 h hP hD hS
  · have h := wp_f h hc
    refine lv_iconst (v := 1) hx hb dX7_has_19 (by decide) ?_
    refine lv_goto (tgt := 24) hx hb dX7_has_20 (by decide) ?_
    exact hret _ _ _ _ _ () rfl dX7_has_24 h hP hD hS

abbrev rmX7_total : Room := { frames := 1, cells := 0, slots := 0, locals := 21 }
set_option maxHeartbeats 4000000 in
set_option maxRecDepth 100000 in
theorem MX7_total (l : Launch) (G : kG) (w0 w1 : Nat) (w_rows : Nat → Int64) {K : Int32 → Prop} (h : wpX7_total w_rows K) : kI l G yX7_total wsX7_total rmX7_total [.ref w0] [(w0, .inr (7, [.ref w1])), (w1, .inl (G.2.2.1, 6, .inr (.inl w_rows)))] (S := Unit) (fun _ => [(w0, .inr (7, [.ref w1])), (w1, .inl (G.2.2.1, 6, .inr (.inl w_rows)))]) (fun r u => K r) 0 0 := by
  refine kI_of (cc := cX7_total) (maxL := 3) (ret := .int) (by decide) rfl (Nat.le_of_ble_eq_true rfl) ?_
  intro p e s m below meth c Q A ls Fx hK hN hA hnm hret hP hD hl hS
  obtain ⟨hx, hb, hml, hown, hts⟩ := id Fx
  have hown : s.vm.findClass RX7 = some m.cls := hown
  have hl : lv_has ls 3 [(0, .ref w0)] := hl
  have hiX7 : ∀ w ∈ u_ws RX7 TX7 1, w ∈ wsX7_total := by decide +kernel
  unfold wpX7_total at h
  refine lv_iconst (v := 0) hx hb dX7_total_0 (by decide) ?_
  refine lv_istore_n (lv' := [(1, .int 0), (0, .ref w0)]) hx hb dX7_total_1 rfl hl (by decide) rfl (fun ls hl => ?_)
  refine lv_iconst (v := 0) hx hb dX7_total_2 (by decide) ?_
  refine lv_istore_n (lv' := [(2, .int 0), (1, .int 0), (0, .ref w0)]) hx hb dX7_total_3 rfl hl (by decide) rfl (fun ls hl => ?_)
  have h := h (fun (v_1 : Int32) (v_2 : Int32) => ∀ (H : Heap) (locs : List Loc) (ls : Array Slot), va_P G.1 vwCl [(w0, .inr (7, [.ref w1])), (w1, .inl (G.2.2.1, 6, .inr (.inl w_rows)))] H → va_D A [(w0, .inr (7, [.ref w1])), (w1, .inl (G.2.2.1, 6, .inr (.inl w_rows)))] → va_S A s.heap H locs → lv_has ls 3 [(0, .ref w0), (1, .int v_1), (2, .int v_2)] → W p l e rmX7_total s m [.ref w0].toArray below meth c H locs 0 0 Q (F0 m 4 ls []))
  have h := h (fun v_1 v_2 h H locs ls hP hD hS hl => by
    refine lv_iload_n hx hb dX7_total_4 rfl (lv_at hl 2 rfl) ?_
    refine lv_bipush (v := 6) hx hb dX7_total_5 (by decide) ?_
    refine lv_icmp_ge (tgt := 30) hx hb dX7_total_7 (by decide) (fun hc => ?_) (fun hc => ?_)
    · have h := wp_t h hc
      refine lv_iload_n hx hb dX7_total_30 rfl (lv_at hl 1 rfl) ?_
      exact hret _ _ _ _ _ () rfl dX7_total_31 h hP hD hS
    · have h := wp_f h hc
      refine lv_iload_n hx hb dX7_total_10 rfl (lv_at hl 1 rfl) ?_
      refine lv_aload_n hx hb dX7_total_11 rfl (lv_at hl 0 rfl) ?_
      refine va_get (D := G.1) (ci := 7) (v := .ref w1) (C := RX7) (T := TX7) (N := 1) hx hb hts hiX7 hown hK hP 0 rfl rfl 0 (by decide) (hts (.fieldLink RX7 9 "LodgingNames$Words" "rows" "[J") (by decide +kernel)) (fun _ h9 => h9) rfl dX7_total_12 ?_
      refine lv_iload_n hx hb dX7_total_15 rfl (lv_at hl 2 rfl) ?_
      refine kc_l (Wr := [(w0, .inr (7, [.ref w1]))]) (va_runSN (As := [.ref w1, .int v_2]) (rest := [.int v_1]) Fx (MX8_at_ l G w1 6 w_rows v_2 h H.size) ⟨va_cnB (host := RX8) 2 hts gX7_total_X8_at__n15 rfl rfl rfl (hN (.methodLinkNest RX7 15 yX8_at_ RX8) (by decide +kernel)) (hts (.initialized RX8) (by decide +kernel)) (by decide +kernel) ⟨Nat.le_of_ble_eq_true rfl, Nat.le_of_ble_eq_true rfl⟩, hts (.static yX8_at_) (by decide +kernel), trivial⟩ (kpreS hP hD hK hN [1] rfl rfl) rfl rfl hl.1 rfl (lv_room (Nat.le_of_ble_eq_true rfl)) dX7_total_16 ⟨Nat.le_of_ble_eq_true rfl, Nat.le_of_ble_eq_true rfl⟩) hP hD hS hA [1] [0] rfl rfl rfl (by decide +kernel) (fun r_3 u H locs h hP hD hS => ?_)
      have hP : va_P G.1 vwCl [(w0, .inr (7, [.ref w1])), (w1, .inl (G.2.2.1, 6, .inr (.inl w_rows)))] H := hP
      have hD : va_D A [(w0, .inr (7, [.ref w1])), (w1, .inl (G.2.2.1, 6, .inr (.inl w_rows)))] := hD
      refine kc_i (Wr := [(w0, .inr (7, [.ref w1])), (w1, .inl (G.2.2.1, 6, .inr (.inl w_rows)))]) (va_runS (As := [.long r_3]) (rest := [.int v_1]) Fx (MJ13_bitCount_95d88 l G r_3 h H.size) (va_cwS 1 hts gX7_total_J13_bitCount_95d88 rfl rfl rfl (by decide +kernel) ⟨Nat.le_of_ble_eq_true rfl, Nat.le_of_ble_eq_true rfl⟩) (kpreS hP hD hK hN [] rfl rfl) rfl rfl hl.1 rfl (lv_room (Nat.le_of_ble_eq_true rfl)) dX7_total_19 ⟨Nat.le_of_ble_eq_true rfl, Nat.le_of_ble_eq_true rfl⟩) hP hD hS hA [] [0, 1] rfl rfl rfl (by decide +kernel) (fun r_4 u H locs h hP hD hS => ?_)
      have hP : va_P G.1 vwCl [(w0, .inr (7, [.ref w1])), (w1, .inl (G.2.2.1, 6, .inr (.inl w_rows)))] H := hP
      have hD : va_D A [(w0, .inr (7, [.ref w1])), (w1, .inl (G.2.2.1, 6, .inr (.inl w_rows)))] := hD
      refine lv_iadd hx hb dX7_total_22 ?_
      refine lv_topi (fun x_5 ex_5 => ?_)
      have h := h x_5 ex_5
      refine lv_istore_n (lv' := [(1, .int x_5), (0, .ref w0), (2, .int v_2)]) hx hb dX7_total_23 rfl hl (by decide) rfl (fun ls hl => ?_)
      refine lv_iinc (v := (v_2 + 1)) (lv' := [(2, .int (v_2 + 1)), (1, .int x_5), (0, .ref w0)]) hx hb dX7_total_24 hl (k := 2) rfl rfl (by decide) rfl (fun ls hl => ?_)
      refine lv_goto (tgt := 4) hx hb dX7_total_27 (by decide) ?_
      exact h _ _ _ hP hD hS (lv_sub hl [2, 1, 0] rfl))
  exact h _ _ _ hP hD hS (lv_sub hl [2, 1, 0] rfl)

abbrev rmX7_canFlip : Room := { frames := 2, cells := 0, slots := 0, locals := 44 }
set_option maxHeartbeats 4000000 in
set_option maxRecDepth 100000 in
theorem MX7_canFlip (l : Launch) (G : kG) (w0 w1 : Nat) (w_rows : Nat → Int64) (a1 : Int32) (a2 : Int32) (a3 : Int32) {K : Int32 → Prop} (h : wpX7_canFlip w_rows a1 a2 a3 K) : kI l G yX7_canFlip wsX7_canFlip rmX7_canFlip [.ref w0, .int a1, .int a2, .int a3] [(w0, .inr (7, [.ref w1])), (w1, .inl (G.2.2.1, 6, .inr (.inl w_rows)))] (S := Unit) (fun _ => [(w0, .inr (7, [.ref w1])), (w1, .inl (G.2.2.1, 6, .inr (.inl w_rows)))]) (fun r u => K r) 0 0 := by
  refine kI_of (cc := cX7_canFlip) (maxL := 4) (ret := .boolean) (by decide) rfl (Nat.le_of_ble_eq_true rfl) ?_
  intro p e s m below meth c Q A ls Fx hK hN hA hnm hret hP hD hl hS
  obtain ⟨hx, hb, hml, hown, hts⟩ := id Fx
  have hown : s.vm.findClass RX7 = some m.cls := hown
  have hl : lv_has ls 4 [(0, .ref w0), (1, .int a1), (2, .int a2), (3, .int a3)] := hl
  unfold wpX7_canFlip at h
  refine lv_aload_n hx hb dX7_canFlip_0 rfl (lv_at hl 0 rfl) ?_
  refine lv_iload_n hx hb dX7_canFlip_1 rfl (lv_at hl 1 rfl) ?_
  refine lv_iload_n hx hb dX7_canFlip_2 rfl (lv_at hl 2 rfl) ?_
  refine lv_iload_n hx hb dX7_canFlip_3 rfl (lv_at hl 3 rfl) ?_
  refine kc_i (Wr := []) (va_runV (As := [.int a1, .int a2, .int a3]) (rest := []) Fx (MX7_has l G w0 w1 w_rows a1 a2 a3 h s.heap.size) (cwV 3 hts gX7_canFlip_X7_has rfl rfl rfl (by decide +kernel) ⟨Nat.le_of_ble_eq_true rfl, Nat.le_of_ble_eq_true rfl⟩) (kpreV hP hD hK hN [0, 1] rfl rfl 0 rfl rfl) rfl rfl hl.1 rfl (lv_room (Nat.le_of_ble_eq_true rfl)) dX7_canFlip_4 ⟨Nat.le_of_ble_eq_true rfl, Nat.le_of_ble_eq_true rfl⟩) hP hD hS hA [0, 1] [] rfl rfl rfl (by decide +kernel) (fun r_1 u H locs h hP hD hS => ?_)
  have hP : va_P G.1 vwCl [(w0, .inr (7, [.ref w1])), (w1, .inl (G.2.2.1, 6, .inr (.inl w_rows)))] H := hP
  have hD : va_D A [(w0, .inr (7, [.ref w1])), (w1, .inl (G.2.2.1, 6, .inr (.inl w_rows)))] := hD
  refine lv_if_ne (tgt := 19) hx hb dX7_canFlip_7 (by decide) (fun hc => ?_) (fun hc => ?_)
  · have h := wp_f h hc
    refine lv_iconst (v := 1) hx hb dX7_canFlip_19 (by decide) ?_
    refine lv_goto (tgt := 24) hx hb dX7_canFlip_20 (by decide) ?_
    exact hret _ _ _ _ _ () rfl dX7_canFlip_24 h hP hD hS
  · have h := wp_t h hc
    refine lv_aload_n hx hb dX7_canFlip_10 rfl (lv_at hl 0 rfl) ?_
    refine kc_i (Wr := []) (va_runV (As := []) (rest := []) Fx (MX7_total l G w0 w1 w_rows h H.size) (cwV 0 hts gX7_canFlip_X7_total rfl rfl rfl (by decide +kernel) ⟨Nat.le_of_ble_eq_true rfl, Nat.le_of_ble_eq_true rfl⟩) (kpreV hP hD hK hN [0, 1] rfl rfl 0 rfl rfl) rfl rfl hl.1 rfl (lv_room (Nat.le_of_ble_eq_true rfl)) dX7_canFlip_11 ⟨Nat.le_of_ble_eq_true rfl, Nat.le_of_ble_eq_true rfl⟩) hP hD hS hA [0, 1] [] rfl rfl rfl (by decide +kernel) (fun r_2 u H locs h hP hD hS => ?_)
    have hP : va_P G.1 vwCl [(w0, .inr (7, [.ref w1])), (w1, .inl (G.2.2.1, 6, .inr (.inl w_rows)))] H := hP
    have hD : va_D A [(w0, .inr (7, [.ref w1])), (w1, .inl (G.2.2.1, 6, .inr (.inl w_rows)))] := hD
    refine lv_bipush (v := 12) hx hb dX7_canFlip_14 (by decide) ?_
    refine lv_icmp_ge (tgt := 23) hx hb dX7_canFlip_16 (by decide) (fun hc => ?_) (fun hc => ?_)
    · have h := wp_t h hc
      refine lv_iconst (v := 0) hx hb dX7_canFlip_23 (by decide) ?_
      exact hret _ _ _ _ _ () rfl dX7_canFlip_24 h hP hD hS
    · have h := wp_f h hc
      refine lv_iconst (v := 1) hx hb dX7_canFlip_19 (by decide) ?_
      refine lv_goto (tgt := 24) hx hb dX7_canFlip_20 (by decide) ?_
      exact hret _ _ _ _ _ () rfl dX7_canFlip_24 h hP hD hS

abbrev rmX8_put_ : Room := { frames := 0, cells := 0, slots := 0, locals := 0 }
set_option maxHeartbeats 4000000 in
set_option maxRecDepth 100000 in
theorem MX8_put_ (l : Launch) (G : kG) (r0 : Nat) (r_n : Nat) (r_f : Nat → Int64) (a1 : Int32) (a2 : Int64) {K : (Nat → Int64) → Prop} (h : wpX8_put_ r_n r_f a1 a2 K) : kV l G yX8_put_ wsX8_put_ rmX8_put_ [.ref r0, .int a1, .long a2] [(r0, .inl (G.2.2.1, r_n, .inr (.inl r_f)))] (S := (Nat → Int64)) (fun u => [(r0, .inl (G.2.2.1, r_n, .inr (.inl u)))]) (fun u => K u) 0 0 := by
  refine kV_of (cc := cX8_put_) (maxL := 4) (by decide) rfl (Nat.le_of_ble_eq_true rfl) ?_
  intro p e s m below meth c Q A ls Fx hK hN hA hnm hret hP hD hl hS
  obtain ⟨hx, hb, hml, hown, hts⟩ := id Fx
  have hown : s.vm.findClass RX8 = some m.cls := hown
  have hl : lv_has ls 4 [(0, .ref r0), (1, .int a1), (2, .long a2)] := hl
  unfold wpX8_put_ at h
  refine lv_aload_n hx hb dX8_put__0 rfl (lv_at hl 0 rfl) ?_
  refine lv_ifnull hx hb dX8_put__1 ?_
  refine lv_iload_n hx hb dX8_put__4 rfl (lv_at hl 1 rfl) ?_
  refine lv_if_lt (tgt := 18) hx hb dX8_put__5 (by decide) (fun hc => ?_) (fun hc => ?_)
  · have h := wp_t h hc
    exact hret _ _ _ _ (r_f) dX8_put__18 h hP hD hS
  · have h := wp_f h hc
    refine lv_iload_n hx hb dX8_put__8 rfl (lv_at hl 1 rfl) ?_
    refine lv_aload_n hx hb dX8_put__9 rfl (lv_at hl 0 rfl) ?_
    refine va_alen hx hb hK hP 0 1 rfl rfl (v := (Int32.ofNat r_n)) rfl dX8_put__10 ?_
    refine lv_icmp_ge (tgt := 18) hx hb dX8_put__11 (by decide) (fun hc => ?_) (fun hc => ?_)
    · have h := wp_t h hc
      exact hret _ _ _ _ (r_f) dX8_put__18 h hP hD hS
    · have h := wp_f h hc
      refine lv_aload_n hx hb dX8_put__14 rfl (lv_at hl 0 rfl) ?_
      refine lv_iload_n hx hb dX8_put__15 rfl (lv_at hl 1 rfl) ?_
      refine lv_lload_n hx hb dX8_put__16 rfl (lv_at hl 2 rfl) ?_
      obtain ⟨hin, h⟩ := h
      refine va_last hx hb hK hP hD hS 0 1 rfl rfl hin dX8_put__17 (fun H locs hP hD hS => ?_)
      have hP : va_P G.1 vwCl [(r0, .inl (G.2.2.1, r_n, .inr (.inl (vp_updL r_f (Int32.toNatClampNeg a1) a2))))] H := hP
      have hD : va_D A [(r0, .inl (G.2.2.1, r_n, .inr (.inl (vp_updL r_f (Int32.toNatClampNeg a1) a2))))] := hD
      exact hret _ _ _ _ ((vp_updL r_f (Int32.toNatClampNeg a1) a2)) dX8_put__18 h hP hD hS

abbrev rmX7_flip : Room := { frames := 1, cells := 0, slots := 0, locals := 23 }
set_option maxHeartbeats 4000000 in
set_option maxRecDepth 100000 in
theorem MX7_flip (l : Launch) (G : kG) (w0 w1 : Nat) (w_rows : Nat → Int64) (a1 : Int32) (a2 : Int32) (a3 : Int32) {K : (Nat → Int64) → Prop} (h : wpX7_flip w_rows a1 a2 a3 K) : kV l G yX7_flip wsX7_flip rmX7_flip [.ref w0, .int a1, .int a2, .int a3] [(w0, .inr (7, [.ref w1])), (w1, .inl (G.2.2.1, 6, .inr (.inl w_rows)))] (S := (Nat → Int64)) (fun u => [(w0, .inr (7, [.ref w1])), (w1, .inl (G.2.2.1, 6, .inr (.inl u)))]) (fun u => K u) 0 0 := by
  refine kV_of (cc := cX7_flip) (maxL := 4) (by decide) rfl (Nat.le_of_ble_eq_true rfl) ?_
  intro p e s m below meth c Q A ls Fx hK hN hA hnm hret hP hD hl hS
  obtain ⟨hx, hb, hml, hown, hts⟩ := id Fx
  have hown : s.vm.findClass RX7 = some m.cls := hown
  have hl : lv_has ls 4 [(0, .ref w0), (1, .int a1), (2, .int a2), (3, .int a3)] := hl
  have hiX7 : ∀ w ∈ u_ws RX7 TX7 1, w ∈ wsX7_flip := by decide +kernel
  unfold wpX7_flip at h
  refine lv_aload_n hx hb dX7_flip_0 rfl (lv_at hl 0 rfl) ?_
  refine va_get (D := G.1) (ci := 7) (v := .ref w1) (C := RX7) (T := TX7) (N := 1) hx hb hts hiX7 hown hK hP 0 rfl rfl 0 (by decide) (hts (.fieldLink RX7 9 "LodgingNames$Words" "rows" "[J") (by decide +kernel)) (fun _ h9 => h9) rfl dX7_flip_1 ?_
  refine lv_iload_n hx hb dX7_flip_4 rfl (lv_at hl 2 rfl) ?_
  refine lv_aload_n hx hb dX7_flip_5 rfl (lv_at hl 0 rfl) ?_
  refine va_get (D := G.1) (ci := 7) (v := .ref w1) (C := RX7) (T := TX7) (N := 1) hx hb hts hiX7 hown hK hP 0 rfl rfl 0 (by decide) (hts (.fieldLink RX7 9 "LodgingNames$Words" "rows" "[J") (by decide +kernel)) (fun _ h9 => h9) rfl dX7_flip_6 ?_
  refine lv_iload_n hx hb dX7_flip_9 rfl (lv_at hl 2 rfl) ?_
  refine kc_l (Wr := [(w0, .inr (7, [.ref w1]))]) (va_runSN (As := [.ref w1, .int a2]) (rest := [.int a2, .ref w1]) Fx (MX8_at_ l G w1 6 w_rows a2 h s.heap.size) ⟨va_cnB (host := RX8) 2 hts gX7_flip_X8_at__n15 rfl rfl rfl (hN (.methodLinkNest RX7 15 yX8_at_ RX8) (by decide +kernel)) (hts (.initialized RX8) (by decide +kernel)) (by decide +kernel) ⟨Nat.le_of_ble_eq_true rfl, Nat.le_of_ble_eq_true rfl⟩, hts (.static yX8_at_) (by decide +kernel), trivial⟩ (kpreS hP hD hK hN [1] rfl rfl) rfl rfl hl.1 rfl (lv_room (Nat.le_of_ble_eq_true rfl)) dX7_flip_10 ⟨Nat.le_of_ble_eq_true rfl, Nat.le_of_ble_eq_true rfl⟩) hP hD hS hA [1] [0] rfl rfl rfl (by decide +kernel) (fun r_1 u H locs h hP hD hS => ?_)
  have hP : va_P G.1 vwCl [(w0, .inr (7, [.ref w1])), (w1, .inl (G.2.2.1, 6, .inr (.inl w_rows)))] H := hP
  have hD : va_D A [(w0, .inr (7, [.ref w1])), (w1, .inl (G.2.2.1, 6, .inr (.inl w_rows)))] := hD
  refine lv_iload_n hx hb dX7_flip_13 rfl (lv_at hl 1 rfl) ?_
  refine lv_iload_n hx hb dX7_flip_14 rfl (lv_at hl 3 rfl) ?_
  refine kc_l (Wr := [(w0, .inr (7, [.ref w1])), (w1, .inl (G.2.2.1, 6, .inr (.inl w_rows)))]) (va_runS (As := [.int a1, .int a3]) (rest := [.long r_1, .int a2, .ref w1]) Fx (MX7_bit l G a1 a3 h H.size) (va_cwS 2 hts gX7_flip_X7_bit rfl rfl rfl (by decide +kernel) ⟨Nat.le_of_ble_eq_true rfl, Nat.le_of_ble_eq_true rfl⟩) (kpreS hP hD hK hN [] rfl rfl) rfl rfl hl.1 rfl (lv_room (Nat.le_of_ble_eq_true rfl)) dX7_flip_15 ⟨Nat.le_of_ble_eq_true rfl, Nat.le_of_ble_eq_true rfl⟩) hP hD hS hA [] [0, 1] rfl rfl rfl (by decide +kernel) (fun r_2 u H locs h hP hD hS => ?_)
  have hP : va_P G.1 vwCl [(w0, .inr (7, [.ref w1])), (w1, .inl (G.2.2.1, 6, .inr (.inl w_rows)))] H := hP
  have hD : va_D A [(w0, .inr (7, [.ref w1])), (w1, .inl (G.2.2.1, 6, .inr (.inl w_rows)))] := hD
  refine lv_lxor hx hb dX7_flip_18 ?_
  refine kc_v (Wr := [(w0, .inr (7, [.ref w1]))]) (va_runSN (As := [.ref w1, .int a2, .long (r_1 ^^^ r_2)]) (rest := []) Fx (MX8_put_ l G w1 6 w_rows a2 (r_1 ^^^ r_2) h H.size) ⟨va_cnB (host := RX8) 3 hts gX7_flip_X8_put__n37 rfl rfl rfl (hN (.methodLinkNest RX7 37 yX8_put_ RX8) (by decide +kernel)) (hts (.initialized RX8) (by decide +kernel)) (by decide +kernel) ⟨Nat.le_of_ble_eq_true rfl, Nat.le_of_ble_eq_true rfl⟩, hts (.static yX8_put_) (by decide +kernel), trivial⟩ (kpreS hP hD hK hN [1] rfl rfl) rfl rfl hl.1 rfl (lv_room (Nat.le_of_ble_eq_true rfl)) dX7_flip_19 ⟨Nat.le_of_ble_eq_true rfl, Nat.le_of_ble_eq_true rfl⟩) hP hD hS hA [1] [0] rfl rfl rfl (by decide +kernel) (fun w_rows_3 H locs h hP hD hS => ?_)
  have hP : va_P G.1 vwCl [(w0, .inr (7, [.ref w1])), (w1, .inl (G.2.2.1, 6, .inr (.inl w_rows_3)))] H := hP
  have hD : va_D A [(w0, .inr (7, [.ref w1])), (w1, .inl (G.2.2.1, 6, .inr (.inl w_rows_3)))] := hD
  exact hret _ _ _ _ (w_rows_3) dX7_flip_22 h hP hD hS

abbrev rmX7_clear : Room := { frames := 1, cells := 0, slots := 0, locals := 23 }
set_option maxHeartbeats 4000000 in
set_option maxRecDepth 100000 in
theorem MX7_clear (l : Launch) (G : kG) (w0 w1 : Nat) (w_rows : Nat → Int64) {K : (Nat → Int64) → Prop} (h : wpX7_clear w_rows K) : kV l G yX7_clear wsX7_clear rmX7_clear [.ref w0] [(w0, .inr (7, [.ref w1])), (w1, .inl (G.2.2.1, 6, .inr (.inl w_rows)))] (S := (Nat → Int64)) (fun u => [(w0, .inr (7, [.ref w1])), (w1, .inl (G.2.2.1, 6, .inr (.inl u)))]) (fun u => K u) 0 0 := by
  refine kV_of (cc := cX7_clear) (maxL := 2) (by decide) rfl (Nat.le_of_ble_eq_true rfl) ?_
  intro p e s m below meth c Q A ls Fx hK hN hA hnm hret hP hD hl hS
  obtain ⟨hx, hb, hml, hown, hts⟩ := id Fx
  have hown : s.vm.findClass RX7 = some m.cls := hown
  have hl : lv_has ls 2 [(0, .ref w0)] := hl
  have hiX7 : ∀ w ∈ u_ws RX7 TX7 1, w ∈ wsX7_clear := by decide +kernel
  unfold wpX7_clear at h
  refine lv_iconst (v := 0) hx hb dX7_clear_0 (by decide) ?_
  refine lv_istore_n (lv' := [(1, .int 0), (0, .ref w0)]) hx hb dX7_clear_1 rfl hl (by decide) rfl (fun ls hl => ?_)
  have h := h (fun (v_1 : Int32) (w_rows_2 : Nat → Int64) => ∀ (H : Heap) (locs : List Loc) (ls : Array Slot), va_P G.1 vwCl [(w0, .inr (7, [.ref w1])), (w1, .inl (G.2.2.1, 6, .inr (.inl w_rows_2)))] H → va_D A [(w0, .inr (7, [.ref w1])), (w1, .inl (G.2.2.1, 6, .inr (.inl w_rows_2)))] → va_S A s.heap H locs → lv_has ls 2 [(0, .ref w0), (1, .int v_1)] → W p l e rmX7_clear s m [.ref w0].toArray below meth c H locs 0 0 Q (F0 m 2 ls []))
  have h := h (fun v_1 w_rows_2 h H locs ls hP hD hS hl => by
    refine lv_iload_n hx hb dX7_clear_2 rfl (lv_at hl 1 rfl) ?_
    refine lv_bipush (v := 6) hx hb dX7_clear_3 (by decide) ?_
    refine lv_icmp_ge (tgt := 23) hx hb dX7_clear_5 (by decide) (fun hc => ?_) (fun hc => ?_)
    · have h := wp_t h hc
      exact hret _ _ _ _ (w_rows_2) dX7_clear_23 h hP hD hS
    · have h := wp_f h hc
      refine lv_aload_n hx hb dX7_clear_8 rfl (lv_at hl 0 rfl) ?_
      refine va_get (D := G.1) (ci := 7) (v := .ref w1) (C := RX7) (T := TX7) (N := 1) hx hb hts hiX7 hown hK hP 0 rfl rfl 0 (by decide) (hts (.fieldLink RX7 9 "LodgingNames$Words" "rows" "[J") (by decide +kernel)) (fun _ h9 => h9) rfl dX7_clear_9 ?_
      refine lv_iload_n hx hb dX7_clear_12 rfl (lv_at hl 1 rfl) ?_
      refine lv_lconst (v := 0) hx hb dX7_clear_13 (by decide) ?_
      refine kc_v (Wr := [(w0, .inr (7, [.ref w1]))]) (va_runSN (As := [.ref w1, .int v_1, .long 0]) (rest := []) Fx (MX8_put_ l G w1 6 w_rows_2 v_1 0 h H.size) ⟨va_cnB (host := RX8) 3 hts gX7_clear_X8_put__n37 rfl rfl rfl (hN (.methodLinkNest RX7 37 yX8_put_ RX8) (by decide +kernel)) (hts (.initialized RX8) (by decide +kernel)) (by decide +kernel) ⟨Nat.le_of_ble_eq_true rfl, Nat.le_of_ble_eq_true rfl⟩, hts (.static yX8_put_) (by decide +kernel), trivial⟩ (kpreS hP hD hK hN [1] rfl rfl) rfl rfl hl.1 rfl (lv_room (Nat.le_of_ble_eq_true rfl)) dX7_clear_14 ⟨Nat.le_of_ble_eq_true rfl, Nat.le_of_ble_eq_true rfl⟩) hP hD hS hA [1] [0] rfl rfl rfl (by decide +kernel) (fun w_rows_3 H locs h hP hD hS => ?_)
      have hP : va_P G.1 vwCl [(w0, .inr (7, [.ref w1])), (w1, .inl (G.2.2.1, 6, .inr (.inl w_rows_3)))] H := hP
      have hD : va_D A [(w0, .inr (7, [.ref w1])), (w1, .inl (G.2.2.1, 6, .inr (.inl w_rows_3)))] := hD
      refine lv_iinc (v := (v_1 + 1)) (lv' := [(1, .int (v_1 + 1)), (0, .ref w0)]) hx hb dX7_clear_17 hl (k := 1) rfl rfl (by decide) rfl (fun ls hl => ?_)
      refine lv_goto (tgt := 2) hx hb dX7_clear_20 (by decide) ?_
      exact h _ _ _ hP hD hS (lv_sub hl [1, 0] rfl))
  exact h _ _ _ hP hD hS (lv_sub hl [1, 0] rfl)

abbrev rmX7_become : Room := { frames := 2, cells := 0, slots := 0, locals := 42 }
set_option maxHeartbeats 4000000 in
set_option maxRecDepth 100000 in
theorem MX7_become (l : Launch) (G : kG) (w0 w1 v0 v1 : Nat) (w_rows : Nat → Int64) (v_rows : Nat → Int64) {K : (Nat → Int64) → Prop} (h : wpX7_become w_rows v_rows K) : kV l G yX7_become wsX7_become rmX7_become [.ref w0, .ref v0] [(w0, .inr (7, [.ref w1])), (w1, .inl (G.2.2.1, 6, .inr (.inl w_rows))), (v0, .inr (7, [.ref v1])), (v1, .inl (G.2.2.1, 6, .inr (.inl v_rows)))] (S := (Nat → Int64)) (fun u => [(w0, .inr (7, [.ref w1])), (w1, .inl (G.2.2.1, 6, .inr (.inl u))), (v0, .inr (7, [.ref v1])), (v1, .inl (G.2.2.1, 6, .inr (.inl v_rows)))]) (fun u => K u) 0 0 := by
  refine kV_of (cc := cX7_become) (maxL := 3) (by decide) rfl (Nat.le_of_ble_eq_true rfl) ?_
  intro p e s m below meth c Q A ls Fx hK hN hA hnm hret hP hD hl hS
  obtain ⟨hx, hb, hml, hown, hts⟩ := id Fx
  have hown : s.vm.findClass RX7 = some m.cls := hown
  have hl : lv_has ls 3 [(0, .ref w0), (1, .ref v0)] := hl
  have hiX7 : ∀ w ∈ u_ws RX7 TX7 1, w ∈ wsX7_become := by decide +kernel
  unfold wpX7_become at h
  refine lv_iconst (v := 0) hx hb dX7_become_0 (by decide) ?_
  refine lv_istore_n (lv' := [(2, .int 0), (0, .ref w0), (1, .ref v0)]) hx hb dX7_become_1 rfl hl (by decide) rfl (fun ls hl => ?_)
  have h := h (fun (v_1 : Int32) (w_rows_2 : Nat → Int64) => ∀ (H : Heap) (locs : List Loc) (ls : Array Slot), va_P G.1 vwCl [(w0, .inr (7, [.ref w1])), (w1, .inl (G.2.2.1, 6, .inr (.inl w_rows_2))), (v0, .inr (7, [.ref v1])), (v1, .inl (G.2.2.1, 6, .inr (.inl v_rows)))] H → va_D A [(w0, .inr (7, [.ref w1])), (w1, .inl (G.2.2.1, 6, .inr (.inl w_rows_2))), (v0, .inr (7, [.ref v1])), (v1, .inl (G.2.2.1, 6, .inr (.inl v_rows)))] → va_S A s.heap H locs → lv_has ls 3 [(0, .ref w0), (1, .ref v0), (2, .int v_1)] → W p l e rmX7_become s m [.ref w0, .ref v0].toArray below meth c H locs 0 0 Q (F0 m 2 ls []))
  have h := h (fun v_1 w_rows_2 h H locs ls hP hD hS hl => by
    refine lv_iload_n hx hb dX7_become_2 rfl (lv_at hl 2 rfl) ?_
    refine lv_bipush (v := 6) hx hb dX7_become_3 (by decide) ?_
    refine lv_icmp_ge (tgt := 27) hx hb dX7_become_5 (by decide) (fun hc => ?_) (fun hc => ?_)
    · have h := wp_t h hc
      exact hret _ _ _ _ (w_rows_2) dX7_become_27 h hP hD hS
    · have h := wp_f h hc
      refine lv_aload_n hx hb dX7_become_8 rfl (lv_at hl 0 rfl) ?_
      refine va_get (D := G.1) (ci := 7) (v := .ref w1) (C := RX7) (T := TX7) (N := 1) hx hb hts hiX7 hown hK hP 0 rfl rfl 0 (by decide) (hts (.fieldLink RX7 9 "LodgingNames$Words" "rows" "[J") (by decide +kernel)) (fun _ h9 => h9) rfl dX7_become_9 ?_
      refine lv_iload_n hx hb dX7_become_12 rfl (lv_at hl 2 rfl) ?_
      refine lv_aload_n hx hb dX7_become_13 rfl (lv_at hl 1 rfl) ?_
      refine lv_iload_n hx hb dX7_become_14 rfl (lv_at hl 2 rfl) ?_
      refine kc_l (Wr := [(w0, .inr (7, [.ref w1])), (w1, .inl (G.2.2.1, 6, .inr (.inl w_rows_2)))]) (va_runV (As := [.int v_1]) (rest := [.int v_1, .ref w1]) Fx (MX7_about l G v0 v1 v_rows v_1 h H.size) (cwV 1 hts gX7_become_X7_about rfl rfl rfl (by decide +kernel) ⟨Nat.le_of_ble_eq_true rfl, Nat.le_of_ble_eq_true rfl⟩) (kpreV hP hD hK hN [2, 3] rfl rfl 2 rfl rfl) rfl rfl hl.1 rfl (lv_room (Nat.le_of_ble_eq_true rfl)) dX7_become_15 ⟨Nat.le_of_ble_eq_true rfl, Nat.le_of_ble_eq_true rfl⟩) hP hD hS hA [2, 3] [0, 1] rfl rfl rfl (by decide +kernel) (fun r_3 u H locs h hP hD hS => ?_)
      have hP : va_P G.1 vwCl [(w0, .inr (7, [.ref w1])), (w1, .inl (G.2.2.1, 6, .inr (.inl w_rows_2))), (v0, .inr (7, [.ref v1])), (v1, .inl (G.2.2.1, 6, .inr (.inl v_rows)))] H := hP
      have hD : va_D A [(w0, .inr (7, [.ref w1])), (w1, .inl (G.2.2.1, 6, .inr (.inl w_rows_2))), (v0, .inr (7, [.ref v1])), (v1, .inl (G.2.2.1, 6, .inr (.inl v_rows)))] := hD
      refine kc_v (Wr := [(w0, .inr (7, [.ref w1])), (v0, .inr (7, [.ref v1])), (v1, .inl (G.2.2.1, 6, .inr (.inl v_rows)))]) (va_runSN (As := [.ref w1, .int v_1, .long r_3]) (rest := []) Fx (MX8_put_ l G w1 6 w_rows_2 v_1 r_3 h H.size) ⟨va_cnB (host := RX8) 3 hts gX7_become_X8_put__n37 rfl rfl rfl (hN (.methodLinkNest RX7 37 yX8_put_ RX8) (by decide +kernel)) (hts (.initialized RX8) (by decide +kernel)) (by decide +kernel) ⟨Nat.le_of_ble_eq_true rfl, Nat.le_of_ble_eq_true rfl⟩, hts (.static yX8_put_) (by decide +kernel), trivial⟩ (kpreS hP hD hK hN [1] rfl rfl) rfl rfl hl.1 rfl (lv_room (Nat.le_of_ble_eq_true rfl)) dX7_become_18 ⟨Nat.le_of_ble_eq_true rfl, Nat.le_of_ble_eq_true rfl⟩) hP hD hS hA [1] [0, 2, 3] rfl rfl rfl (by decide +kernel) (fun w_rows_4 H locs h hP hD hS => ?_)
      have hP : va_P G.1 vwCl [(w0, .inr (7, [.ref w1])), (v0, .inr (7, [.ref v1])), (v1, .inl (G.2.2.1, 6, .inr (.inl v_rows))), (w1, .inl (G.2.2.1, 6, .inr (.inl w_rows_4)))] H := hP
      have hD : va_D A [(w0, .inr (7, [.ref w1])), (v0, .inr (7, [.ref v1])), (v1, .inl (G.2.2.1, 6, .inr (.inl v_rows))), (w1, .inl (G.2.2.1, 6, .inr (.inl w_rows_4)))] := hD
      refine lv_iinc (v := (v_1 + 1)) (lv' := [(2, .int (v_1 + 1)), (0, .ref w0), (1, .ref v0)]) hx hb dX7_become_21 hl (k := 2) rfl rfl (by decide) rfl (fun ls hl => ?_)
      refine lv_goto (tgt := 2) hx hb dX7_become_24 (by decide) ?_
      have hP : va_P G.1 vwCl [(w0, .inr (7, [.ref w1])), (w1, .inl (G.2.2.1, 6, .inr (.inl w_rows_4))), (v0, .inr (7, [.ref v1])), (v1, .inl (G.2.2.1, 6, .inr (.inl v_rows)))] H := hP.sub [0, 3, 1, 2] rfl
      have hD : va_D A [(w0, .inr (7, [.ref w1])), (w1, .inl (G.2.2.1, 6, .inr (.inl w_rows_4))), (v0, .inr (7, [.ref v1])), (v1, .inl (G.2.2.1, 6, .inr (.inl v_rows)))] := hD.sub [0, 3, 1, 2] (by decide) rfl
      exact h _ _ _ hP hD hS (lv_sub hl [1, 2, 0] rfl))
  exact h _ _ _ hP hD hS (lv_sub hl [1, 2, 0] rfl)

abbrev rmX8_put : Room := { frames := 0, cells := 0, slots := 0, locals := 0 }
set_option maxHeartbeats 4000000 in
set_option maxRecDepth 100000 in
theorem MX8_put (l : Launch) (G : kG) (r0 : Nat) (r_n : Nat) (r_f : Nat → Int32) (a1 : Int32) (a2 : Int32) {K : (Nat → Int32) → Prop} (h : wpX8_put r_n r_f a1 a2 K) : kV l G yX8_put wsX8_put rmX8_put [.ref r0, .int a1, .int a2] [(r0, .inl (G.2.1, r_n, .inl r_f))] (S := (Nat → Int32)) (fun u => [(r0, .inl (G.2.1, r_n, .inl u))]) (fun u => K u) 0 0 := by
  refine kV_of (cc := cX8_put) (maxL := 3) (by decide) rfl (Nat.le_of_ble_eq_true rfl) ?_
  intro p e s m below meth c Q A ls Fx hK hN hA hnm hret hP hD hl hS
  obtain ⟨hx, hb, hml, hown, hts⟩ := id Fx
  have hown : s.vm.findClass RX8 = some m.cls := hown
  have hl : lv_has ls 3 [(0, .ref r0), (1, .int a1), (2, .int a2)] := hl
  unfold wpX8_put at h
  refine lv_aload_n hx hb dX8_put_0 rfl (lv_at hl 0 rfl) ?_
  refine lv_ifnull hx hb dX8_put_1 ?_
  refine lv_iload_n hx hb dX8_put_4 rfl (lv_at hl 1 rfl) ?_
  refine lv_if_lt (tgt := 18) hx hb dX8_put_5 (by decide) (fun hc => ?_) (fun hc => ?_)
  · have h := wp_t h hc
    exact hret _ _ _ _ (r_f) dX8_put_18 h hP hD hS
  · have h := wp_f h hc
    refine lv_iload_n hx hb dX8_put_8 rfl (lv_at hl 1 rfl) ?_
    refine lv_aload_n hx hb dX8_put_9 rfl (lv_at hl 0 rfl) ?_
    refine va_alen hx hb hK hP 0 0 rfl rfl (v := (Int32.ofNat r_n)) rfl dX8_put_10 ?_
    refine lv_icmp_ge (tgt := 18) hx hb dX8_put_11 (by decide) (fun hc => ?_) (fun hc => ?_)
    · have h := wp_t h hc
      exact hret _ _ _ _ (r_f) dX8_put_18 h hP hD hS
    · have h := wp_f h hc
      refine lv_aload_n hx hb dX8_put_14 rfl (lv_at hl 0 rfl) ?_
      refine lv_iload_n hx hb dX8_put_15 rfl (lv_at hl 1 rfl) ?_
      refine lv_iload_n hx hb dX8_put_16 rfl (lv_at hl 2 rfl) ?_
      obtain ⟨hin, h⟩ := h
      refine va_iast hx hb hK hP hD hS 0 0 rfl rfl hin dX8_put_17 (fun H locs hP hD hS => ?_)
      have hP : va_P G.1 vwCl [(r0, .inl (G.2.1, r_n, .inl (upd r_f (Int32.toNatClampNeg a1) a2)))] H := hP
      have hD : va_D A [(r0, .inl (G.2.1, r_n, .inl (upd r_f (Int32.toNatClampNeg a1) a2)))] := hD
      exact hret _ _ _ _ ((upd r_f (Int32.toNatClampNeg a1) a2)) dX8_put_18 h hP hD hS

abbrev rmX5_begin : Room := { frames := 3, cells := 0, slots := 0, locals := 64 }
set_option maxHeartbeats 4000000 in
set_option maxRecDepth 100000 in
theorem MX5_begin (l : Launch) (G : kG) (s0 s1 s2 s3 p0 p1 p2 p3 p4 p5 p6 p7 : Nat) (s_days : Int32) (s_noBeds : Int32) (s_rows : Nat → Int64) (s_st : Nat → Int32) (p_persons : Int32) (p_names : Int32) (p_quarrel : Int32) (p_kinds : Nat → Int32) (p_beds : Nat → Int32) (p_foods : Nat → Int32) (p_unkind : Nat → Int32) (p_eats : Nat → Int32) (p_rows : Nat → Int64) {K : Int32 → Int32 → (Nat → Int64) → (Nat → Int32) → Prop} (h : wpX5_begin s_rows s_st p_rows K) : kV l G yX5_begin wsX5_begin rmX5_begin [.ref s0, .ref p0] [(s0, .inr (5, [.ref s1, .ref s3, .int s_days, .int s_noBeds])), (s1, .inr (7, [.ref s2])), (s2, .inl (G.2.2.1, 6, .inr (.inl s_rows))), (s3, .inl (G.2.1, 48, .inl s_st)), (p0, .inr (3, [.ref p1, .ref p2, .ref p3, .ref p4, .ref p5, .ref p6, .int p_persons, .int p_names, .int p_quarrel])), (p1, .inl (G.2.1, 6, .inl p_kinds)), (p2, .inl (G.2.1, 6, .inl p_beds)), (p3, .inl (G.2.1, 6, .inl p_foods)), (p4, .inl (G.2.1, 8, .inl p_unkind)), (p5, .inl (G.2.1, 8, .inl p_eats)), (p6, .inr (7, [.ref p7])), (p7, .inl (G.2.2.1, 6, .inr (.inl p_rows)))] (S := (Int32) × (Int32) × (Nat → Int64) × (Nat → Int32)) (fun u => [(s0, .inr (5, [.ref s1, .ref s3, .int u.1, .int u.2.1])), (s1, .inr (7, [.ref s2])), (s2, .inl (G.2.2.1, 6, .inr (.inl u.2.2.1))), (s3, .inl (G.2.1, 48, .inl u.2.2.2)), (p0, .inr (3, [.ref p1, .ref p2, .ref p3, .ref p4, .ref p5, .ref p6, .int p_persons, .int p_names, .int p_quarrel])), (p1, .inl (G.2.1, 6, .inl p_kinds)), (p2, .inl (G.2.1, 6, .inl p_beds)), (p3, .inl (G.2.1, 6, .inl p_foods)), (p4, .inl (G.2.1, 8, .inl p_unkind)), (p5, .inl (G.2.1, 8, .inl p_eats)), (p6, .inr (7, [.ref p7])), (p7, .inl (G.2.2.1, 6, .inr (.inl p_rows)))]) (fun u => K u.1 u.2.1 u.2.2.1 u.2.2.2) 0 0 := by
  refine kV_of (cc := cX5_begin) (maxL := 3) (by decide) rfl (Nat.le_of_ble_eq_true rfl) ?_
  intro p e s m below meth c Q A ls Fx hK hN hA hnm hret hP hD hl hS
  obtain ⟨hx, hb, hml, hown, hts⟩ := id Fx
  have hown : s.vm.findClass RX5 = some m.cls := hown
  have hl : lv_has ls 3 [(0, .ref s0), (1, .ref p0)] := hl
  have hiX5 : ∀ w ∈ u_ws RX5 TX5 4, w ∈ wsX5_begin := by decide +kernel
  have hiX3 : ∀ w ∈ u_ws RX3 TX3 9, w ∈ wsX5_begin := by decide +kernel
  unfold wpX5_begin at h
  refine lv_aload_n hx hb dX5_begin_0 rfl (lv_at hl 0 rfl) ?_
  refine va_get (D := G.1) (ci := 5) (v := .ref s1) (C := RX5) (T := TX5) (N := 4) hx hb hts hiX5 hown hK hP 0 rfl rfl 0 (by decide) (hts (.fieldLink RX5 12 "LodgingNames$Standing" "words" "LLodgingNames$Words;") (by decide +kernel)) (fun _ h9 => h9) rfl dX5_begin_1 ?_
  refine lv_aload_n hx hb dX5_begin_4 rfl (lv_at hl 1 rfl) ?_
  refine va_getN (D := G.1) (ci := 3) (v := .ref p6) (C := RX3) (T := TX3) (N := 9) hx hb hts hiX3 hown hK hP 4 rfl rfl 5 (by decide) (va_Nw.use rfl (hN (.fieldLinkNest RX5 22 "LodgingNames$Port" "words" "LLodgingNames$Words;" "LodgingNames") (by decide +kernel))) (fun _ h9 => h9) rfl dX5_begin_5 ?_
  refine kc_v (Wr := [(s0, .inr (5, [.ref s1, .ref s3, .int s_days, .int s_noBeds])), (s3, .inl (G.2.1, 48, .inl s_st)), (p0, .inr (3, [.ref p1, .ref p2, .ref p3, .ref p4, .ref p5, .ref p6, .int p_persons, .int p_names, .int p_quarrel])), (p1, .inl (G.2.1, 6, .inl p_kinds)), (p2, .inl (G.2.1, 6, .inl p_beds)), (p3, .inl (G.2.1, 6, .inl p_foods)), (p4, .inl (G.2.1, 8, .inl p_unkind)), (p5, .inl (G.2.1, 8, .inl p_eats))]) (va_runV (As := [.ref p6]) (rest := []) Fx (MX7_become l G s1 s2 p6 p7 s_rows p_rows h s.heap.size) (cwV 1 hts gX5_begin_X7_become rfl rfl rfl (by decide +kernel) ⟨Nat.le_of_ble_eq_true rfl, Nat.le_of_ble_eq_true rfl⟩) (kpreV hP hD hK hN [1, 2, 10, 11] rfl rfl 1 rfl rfl) rfl rfl hl.1 rfl (lv_room (Nat.le_of_ble_eq_true rfl)) dX5_begin_8 ⟨Nat.le_of_ble_eq_true rfl, Nat.le_of_ble_eq_true rfl⟩) hP hD hS hA [1, 2, 10, 11] [0, 3, 4, 5, 6, 7, 8, 9] rfl rfl rfl (by decide +kernel) (fun s_rows_1 H locs h hP hD hS => ?_)
  have hP : va_P G.1 vwCl [(s0, .inr (5, [.ref s1, .ref s3, .int s_days, .int s_noBeds])), (s3, .inl (G.2.1, 48, .inl s_st)), (p0, .inr (3, [.ref p1, .ref p2, .ref p3, .ref p4, .ref p5, .ref p6, .int p_persons, .int p_names, .int p_quarrel])), (p1, .inl (G.2.1, 6, .inl p_kinds)), (p2, .inl (G.2.1, 6, .inl p_beds)), (p3, .inl (G.2.1, 6, .inl p_foods)), (p4, .inl (G.2.1, 8, .inl p_unkind)), (p5, .inl (G.2.1, 8, .inl p_eats)), (s1, .inr (7, [.ref s2])), (s2, .inl (G.2.2.1, 6, .inr (.inl s_rows_1))), (p6, .inr (7, [.ref p7])), (p7, .inl (G.2.2.1, 6, .inr (.inl p_rows)))] H := hP
  have hD : va_D A [(s0, .inr (5, [.ref s1, .ref s3, .int s_days, .int s_noBeds])), (s3, .inl (G.2.1, 48, .inl s_st)), (p0, .inr (3, [.ref p1, .ref p2, .ref p3, .ref p4, .ref p5, .ref p6, .int p_persons, .int p_names, .int p_quarrel])), (p1, .inl (G.2.1, 6, .inl p_kinds)), (p2, .inl (G.2.1, 6, .inl p_beds)), (p3, .inl (G.2.1, 6, .inl p_foods)), (p4, .inl (G.2.1, 8, .inl p_unkind)), (p5, .inl (G.2.1, 8, .inl p_eats)), (s1, .inr (7, [.ref s2])), (s2, .inl (G.2.2.1, 6, .inr (.inl s_rows_1))), (p6, .inr (7, [.ref p7])), (p7, .inl (G.2.2.1, 6, .inr (.inl p_rows)))] := hD
  refine lv_iconst (v := 0) hx hb dX5_begin_11 (by decide) ?_
  refine lv_istore_n (lv' := [(2, .int 0), (0, .ref s0), (1, .ref p0)]) hx hb dX5_begin_12 rfl hl (by decide) rfl (fun ls hl => ?_)
  have h := h (fun (v_2 : Int32) (s_st_3 : Nat → Int32) => ∀ (H : Heap) (locs : List Loc) (ls : Array Slot), va_P G.1 vwCl [(s0, .inr (5, [.ref s1, .ref s3, .int s_days, .int s_noBeds])), (s1, .inr (7, [.ref s2])), (s2, .inl (G.2.2.1, 6, .inr (.inl s_rows_1))), (s3, .inl (G.2.1, 48, .inl s_st_3)), (p0, .inr (3, [.ref p1, .ref p2, .ref p3, .ref p4, .ref p5, .ref p6, .int p_persons, .int p_names, .int p_quarrel])), (p1, .inl (G.2.1, 6, .inl p_kinds)), (p2, .inl (G.2.1, 6, .inl p_beds)), (p3, .inl (G.2.1, 6, .inl p_foods)), (p4, .inl (G.2.1, 8, .inl p_unkind)), (p5, .inl (G.2.1, 8, .inl p_eats)), (p6, .inr (7, [.ref p7])), (p7, .inl (G.2.2.1, 6, .inr (.inl p_rows)))] H → va_D A [(s0, .inr (5, [.ref s1, .ref s3, .int s_days, .int s_noBeds])), (s1, .inr (7, [.ref s2])), (s2, .inl (G.2.2.1, 6, .inr (.inl s_rows_1))), (s3, .inl (G.2.1, 48, .inl s_st_3)), (p0, .inr (3, [.ref p1, .ref p2, .ref p3, .ref p4, .ref p5, .ref p6, .int p_persons, .int p_names, .int p_quarrel])), (p1, .inl (G.2.1, 6, .inl p_kinds)), (p2, .inl (G.2.1, 6, .inl p_beds)), (p3, .inl (G.2.1, 6, .inl p_foods)), (p4, .inl (G.2.1, 8, .inl p_unkind)), (p5, .inl (G.2.1, 8, .inl p_eats)), (p6, .inr (7, [.ref p7])), (p7, .inl (G.2.2.1, 6, .inr (.inl p_rows)))] → va_S A s.heap H locs → lv_has ls 3 [(0, .ref s0), (2, .int v_2)] → W p l e rmX5_begin s m [.ref s0, .ref p0].toArray below meth c H locs 0 0 Q (F0 m 13 ls []))
  have h := h (fun v_2 s_st_3 h H locs ls hP hD hS hl => by
    refine lv_iload_n hx hb dX5_begin_13 rfl (lv_at hl 1 rfl) ?_
    refine lv_bipush (v := 48) hx hb dX5_begin_14 (by decide) ?_
    refine lv_icmp_ge (tgt := 34) hx hb dX5_begin_16 (by decide) (fun hc => ?_) (fun hc => ?_)
    · have h := wp_t h hc
      refine lv_aload_n hx hb dX5_begin_34 rfl (lv_at hl 0 rfl) ?_
      refine lv_iconst (v := 0) hx hb dX5_begin_35 (by decide) ?_
      refine va_put (D := G.1) (ci := 5) (v := .int 0) (ty := .int) (C := RX5) (T := TX5) (N := 4) hx hb hts hiX5 tyX5 tyX5_ok nmX5 hown hK hP hD hS 0 rfl rfl 2 (by decide) (hts (.fieldLink RX5 33 "LodgingNames$Standing" "days" "I") (by decide +kernel)) (fun _ h9 => h9) rfl rfl rfl rfl (Nat.le_of_ble_eq_true rfl) dX5_begin_36 (fun H locs hP hD hS => ?_)
      have hP : va_P G.1 vwCl [(s0, .inr (5, [.ref s1, .ref s3, .int 0, .int s_noBeds])), (s1, .inr (7, [.ref s2])), (s2, .inl (G.2.2.1, 6, .inr (.inl s_rows_1))), (s3, .inl (G.2.1, 48, .inl s_st_3)), (p0, .inr (3, [.ref p1, .ref p2, .ref p3, .ref p4, .ref p5, .ref p6, .int p_persons, .int p_names, .int p_quarrel])), (p1, .inl (G.2.1, 6, .inl p_kinds)), (p2, .inl (G.2.1, 6, .inl p_beds)), (p3, .inl (G.2.1, 6, .inl p_foods)), (p4, .inl (G.2.1, 8, .inl p_unkind)), (p5, .inl (G.2.1, 8, .inl p_eats)), (p6, .inr (7, [.ref p7])), (p7, .inl (G.2.2.1, 6, .inr (.inl p_rows)))] H := hP
      have hD : va_D A [(s0, .inr (5, [.ref s1, .ref s3, .int 0, .int s_noBeds])), (s1, .inr (7, [.ref s2])), (s2, .inl (G.2.2.1, 6, .inr (.inl s_rows_1))), (s3, .inl (G.2.1, 48, .inl s_st_3)), (p0, .inr (3, [.ref p1, .ref p2, .ref p3, .ref p4, .ref p5, .ref p6, .int p_persons, .int p_names, .int p_quarrel])), (p1, .inl (G.2.1, 6, .inl p_kinds)), (p2, .inl (G.2.1, 6, .inl p_beds)), (p3, .inl (G.2.1, 6, .inl p_foods)), (p4, .inl (G.2.1, 8, .inl p_unkind)), (p5, .inl (G.2.1, 8, .inl p_eats)), (p6, .inr (7, [.ref p7])), (p7, .inl (G.2.2.1, 6, .inr (.inl p_rows)))] := hD
      refine lv_aload_n hx hb dX5_begin_39 rfl (lv_at hl 0 rfl) ?_
      refine lv_iconst (v := 0) hx hb dX5_begin_40 (by decide) ?_
      refine va_put (D := G.1) (ci := 5) (v := .int 0) (ty := .int) (C := RX5) (T := TX5) (N := 4) hx hb hts hiX5 tyX5 tyX5_ok nmX5 hown hK hP hD hS 0 rfl rfl 3 (by decide) (hts (.fieldLink RX5 37 "LodgingNames$Standing" "noBeds" "I") (by decide +kernel)) (fun _ h9 => h9) rfl rfl rfl rfl (Nat.le_of_ble_eq_true rfl) dX5_begin_41 (fun H locs hP hD hS => ?_)
      have hP : va_P G.1 vwCl [(s0, .inr (5, [.ref s1, .ref s3, .int 0, .int 0])), (s1, .inr (7, [.ref s2])), (s2, .inl (G.2.2.1, 6, .inr (.inl s_rows_1))), (s3, .inl (G.2.1, 48, .inl s_st_3)), (p0, .inr (3, [.ref p1, .ref p2, .ref p3, .ref p4, .ref p5, .ref p6, .int p_persons, .int p_names, .int p_quarrel])), (p1, .inl (G.2.1, 6, .inl p_kinds)), (p2, .inl (G.2.1, 6, .inl p_beds)), (p3, .inl (G.2.1, 6, .inl p_foods)), (p4, .inl (G.2.1, 8, .inl p_unkind)), (p5, .inl (G.2.1, 8, .inl p_eats)), (p6, .inr (7, [.ref p7])), (p7, .inl (G.2.2.1, 6, .inr (.inl p_rows)))] H := hP
      have hD : va_D A [(s0, .inr (5, [.ref s1, .ref s3, .int 0, .int 0])), (s1, .inr (7, [.ref s2])), (s2, .inl (G.2.2.1, 6, .inr (.inl s_rows_1))), (s3, .inl (G.2.1, 48, .inl s_st_3)), (p0, .inr (3, [.ref p1, .ref p2, .ref p3, .ref p4, .ref p5, .ref p6, .int p_persons, .int p_names, .int p_quarrel])), (p1, .inl (G.2.1, 6, .inl p_kinds)), (p2, .inl (G.2.1, 6, .inl p_beds)), (p3, .inl (G.2.1, 6, .inl p_foods)), (p4, .inl (G.2.1, 8, .inl p_unkind)), (p5, .inl (G.2.1, 8, .inl p_eats)), (p6, .inr (7, [.ref p7])), (p7, .inl (G.2.2.1, 6, .inr (.inl p_rows)))] := hD
      exact hret _ _ _ _ (0, 0, s_rows_1, s_st_3) dX5_begin_44 h hP hD hS
    · have h := wp_f h hc
      refine lv_aload_n hx hb dX5_begin_19 rfl (lv_at hl 0 rfl) ?_
      refine va_get (D := G.1) (ci := 5) (v := .ref s3) (C := RX5) (T := TX5) (N := 4) hx hb hts hiX5 hown hK hP 0 rfl rfl 1 (by decide) (hts (.fieldLink RX5 18 "LodgingNames$Standing" "stoutness" "[I") (by decide +kernel)) (fun _ h9 => h9) rfl dX5_begin_20 ?_
      refine lv_iload_n hx hb dX5_begin_23 rfl (lv_at hl 1 rfl) ?_
      refine lv_iconst (v := 0) hx hb dX5_begin_24 (by decide) ?_
      refine kc_v (Wr := [(s0, .inr (5, [.ref s1, .ref s3, .int s_days, .int s_noBeds])), (s1, .inr (7, [.ref s2])), (s2, .inl (G.2.2.1, 6, .inr (.inl s_rows_1))), (p0, .inr (3, [.ref p1, .ref p2, .ref p3, .ref p4, .ref p5, .ref p6, .int p_persons, .int p_names, .int p_quarrel])), (p1, .inl (G.2.1, 6, .inl p_kinds)), (p2, .inl (G.2.1, 6, .inl p_beds)), (p3, .inl (G.2.1, 6, .inl p_foods)), (p4, .inl (G.2.1, 8, .inl p_unkind)), (p5, .inl (G.2.1, 8, .inl p_eats)), (p6, .inr (7, [.ref p7])), (p7, .inl (G.2.2.1, 6, .inr (.inl p_rows)))]) (va_runSN (As := [.ref s3, .int v_2, .int 0]) (rest := []) Fx (MX8_put l G s3 48 s_st_3 v_2 0 h H.size) ⟨va_cnB (host := RX8) 3 hts gX5_begin_X8_put_n29 rfl rfl rfl (hN (.methodLinkNest RX5 29 yX8_put RX8) (by decide +kernel)) (hts (.initialized RX8) (by decide +kernel)) (by decide +kernel) ⟨Nat.le_of_ble_eq_true rfl, Nat.le_of_ble_eq_true rfl⟩, hts (.static yX8_put) (by decide +kernel), trivial⟩ (kpreS hP hD hK hN [3] rfl rfl) rfl rfl hl.1 rfl (lv_room (Nat.le_of_ble_eq_true rfl)) dX5_begin_25 ⟨Nat.le_of_ble_eq_true rfl, Nat.le_of_ble_eq_true rfl⟩) hP hD hS hA [3] [0, 1, 2, 4, 5, 6, 7, 8, 9, 10, 11] rfl rfl rfl (by decide +kernel) (fun s_st_4 H locs h hP hD hS => ?_)
      have hP : va_P G.1 vwCl [(s0, .inr (5, [.ref s1, .ref s3, .int s_days, .int s_noBeds])), (s1, .inr (7, [.ref s2])), (s2, .inl (G.2.2.1, 6, .inr (.inl s_rows_1))), (p0, .inr (3, [.ref p1, .ref p2, .ref p3, .ref p4, .ref p5, .ref p6, .int p_persons, .int p_names, .int p_quarrel])), (p1, .inl (G.2.1, 6, .inl p_kinds)), (p2, .inl (G.2.1, 6, .inl p_beds)), (p3, .inl (G.2.1, 6, .inl p_foods)), (p4, .inl (G.2.1, 8, .inl p_unkind)), (p5, .inl (G.2.1, 8, .inl p_eats)), (p6, .inr (7, [.ref p7])), (p7, .inl (G.2.2.1, 6, .inr (.inl p_rows))), (s3, .inl (G.2.1, 48, .inl s_st_4))] H := hP
      have hD : va_D A [(s0, .inr (5, [.ref s1, .ref s3, .int s_days, .int s_noBeds])), (s1, .inr (7, [.ref s2])), (s2, .inl (G.2.2.1, 6, .inr (.inl s_rows_1))), (p0, .inr (3, [.ref p1, .ref p2, .ref p3, .ref p4, .ref p5, .ref p6, .int p_persons, .int p_names, .int p_quarrel])), (p1, .inl (G.2.1, 6, .inl p_kinds)), (p2, .inl (G.2.1, 6, .inl p_beds)), (p3, .inl (G.2.1, 6, .inl p_foods)), (p4, .inl (G.2.1, 8, .inl p_unkind)), (p5, .inl (G.2.1, 8, .inl p_eats)), (p6, .inr (7, [.ref p7])), (p7, .inl (G.2.2.1, 6, .inr (.inl p_rows))), (s3, .inl (G.2.1, 48, .inl s_st_4))] := hD
      refine lv_iinc (v := (v_2 + 1)) (lv' := [(2, .int (v_2 + 1)), (0, .ref s0)]) hx hb dX5_begin_28 hl (k := 1) rfl rfl (by decide) rfl (fun ls hl => ?_)
      refine lv_goto (tgt := 13) hx hb dX5_begin_31 (by decide) ?_
      have hP : va_P G.1 vwCl [(s0, .inr (5, [.ref s1, .ref s3, .int s_days, .int s_noBeds])), (s1, .inr (7, [.ref s2])), (s2, .inl (G.2.2.1, 6, .inr (.inl s_rows_1))), (s3, .inl (G.2.1, 48, .inl s_st_4)), (p0, .inr (3, [.ref p1, .ref p2, .ref p3, .ref p4, .ref p5, .ref p6, .int p_persons, .int p_names, .int p_quarrel])), (p1, .inl (G.2.1, 6, .inl p_kinds)), (p2, .inl (G.2.1, 6, .inl p_beds)), (p3, .inl (G.2.1, 6, .inl p_foods)), (p4, .inl (G.2.1, 8, .inl p_unkind)), (p5, .inl (G.2.1, 8, .inl p_eats)), (p6, .inr (7, [.ref p7])), (p7, .inl (G.2.2.1, 6, .inr (.inl p_rows)))] H := hP.sub [0, 1, 2, 11, 3, 4, 5, 6, 7, 8, 9, 10] rfl
      have hD : va_D A [(s0, .inr (5, [.ref s1, .ref s3, .int s_days, .int s_noBeds])), (s1, .inr (7, [.ref s2])), (s2, .inl (G.2.2.1, 6, .inr (.inl s_rows_1))), (s3, .inl (G.2.1, 48, .inl s_st_4)), (p0, .inr (3, [.ref p1, .ref p2, .ref p3, .ref p4, .ref p5, .ref p6, .int p_persons, .int p_names, .int p_quarrel])), (p1, .inl (G.2.1, 6, .inl p_kinds)), (p2, .inl (G.2.1, 6, .inl p_beds)), (p3, .inl (G.2.1, 6, .inl p_foods)), (p4, .inl (G.2.1, 8, .inl p_unkind)), (p5, .inl (G.2.1, 8, .inl p_eats)), (p6, .inr (7, [.ref p7])), (p7, .inl (G.2.2.1, 6, .inr (.inl p_rows)))] := hD.sub [0, 1, 2, 11, 3, 4, 5, 6, 7, 8, 9, 10] (by decide) rfl
      exact h _ _ _ hP hD hS (lv_sub hl [1, 0] rfl))
  have hP : va_P G.1 vwCl [(s0, .inr (5, [.ref s1, .ref s3, .int s_days, .int s_noBeds])), (s1, .inr (7, [.ref s2])), (s2, .inl (G.2.2.1, 6, .inr (.inl s_rows_1))), (s3, .inl (G.2.1, 48, .inl s_st)), (p0, .inr (3, [.ref p1, .ref p2, .ref p3, .ref p4, .ref p5, .ref p6, .int p_persons, .int p_names, .int p_quarrel])), (p1, .inl (G.2.1, 6, .inl p_kinds)), (p2, .inl (G.2.1, 6, .inl p_beds)), (p3, .inl (G.2.1, 6, .inl p_foods)), (p4, .inl (G.2.1, 8, .inl p_unkind)), (p5, .inl (G.2.1, 8, .inl p_eats)), (p6, .inr (7, [.ref p7])), (p7, .inl (G.2.2.1, 6, .inr (.inl p_rows)))] H := hP.sub [0, 8, 9, 1, 2, 3, 4, 5, 6, 7, 10, 11] rfl
  have hD : va_D A [(s0, .inr (5, [.ref s1, .ref s3, .int s_days, .int s_noBeds])), (s1, .inr (7, [.ref s2])), (s2, .inl (G.2.2.1, 6, .inr (.inl s_rows_1))), (s3, .inl (G.2.1, 48, .inl s_st)), (p0, .inr (3, [.ref p1, .ref p2, .ref p3, .ref p4, .ref p5, .ref p6, .int p_persons, .int p_names, .int p_quarrel])), (p1, .inl (G.2.1, 6, .inl p_kinds)), (p2, .inl (G.2.1, 6, .inl p_beds)), (p3, .inl (G.2.1, 6, .inl p_foods)), (p4, .inl (G.2.1, 8, .inl p_unkind)), (p5, .inl (G.2.1, 8, .inl p_eats)), (p6, .inr (7, [.ref p7])), (p7, .inl (G.2.2.1, 6, .inr (.inl p_rows)))] := hD.sub [0, 8, 9, 1, 2, 3, 4, 5, 6, 7, 10, 11] (by decide) rfl
  exact h _ _ _ hP hD hS (lv_sub hl [1, 0] rfl)

abbrev rmX8_at : Room := { frames := 0, cells := 0, slots := 0, locals := 0 }
set_option maxHeartbeats 4000000 in
set_option maxRecDepth 100000 in
theorem MX8_at (l : Launch) (G : kG) (r0 : Nat) (r_n : Nat) (r_f : Nat → Int32) (a1 : Int32) {K : Int32 → Prop} (h : wpX8_at r_n r_f a1 K) : kI l G yX8_at wsX8_at rmX8_at [.ref r0, .int a1] [(r0, .inl (G.2.1, r_n, .inl r_f))] (S := Unit) (fun _ => [(r0, .inl (G.2.1, r_n, .inl r_f))]) (fun r u => K r) 0 0 := by
  refine kI_of (cc := cX8_at) (maxL := 2) (ret := .int) (by decide) rfl (Nat.le_of_ble_eq_true rfl) ?_
  intro p e s m below meth c Q A ls Fx hK hN hA hnm hret hP hD hl hS
  obtain ⟨hx, hb, hml, hown, hts⟩ := id Fx
  have hown : s.vm.findClass RX8 = some m.cls := hown
  have hl : lv_has ls 2 [(0, .ref r0), (1, .int a1)] := hl
  unfold wpX8_at at h
  refine lv_aload_n hx hb dX8_at_0 rfl (lv_at hl 0 rfl) ?_
  refine lv_ifnull hx hb dX8_at_1 ?_
  refine lv_iload_n hx hb dX8_at_4 rfl (lv_at hl 1 rfl) ?_
  refine lv_if_lt (tgt := 20) hx hb dX8_at_5 (by decide) (fun hc => ?_) (fun hc => ?_)
  · have h := wp_t h hc
    refine lv_iconst (v := 0) hx hb dX8_at_20 (by decide) ?_
    exact hret _ _ _ _ _ () rfl dX8_at_21 h hP hD hS
  · have h := wp_f h hc
    refine lv_iload_n hx hb dX8_at_8 rfl (lv_at hl 1 rfl) ?_
    refine lv_aload_n hx hb dX8_at_9 rfl (lv_at hl 0 rfl) ?_
    refine va_alen hx hb hK hP 0 0 rfl rfl (v := (Int32.ofNat r_n)) rfl dX8_at_10 ?_
    refine lv_icmp_ge (tgt := 20) hx hb dX8_at_11 (by decide) (fun hc => ?_) (fun hc => ?_)
    · have h := wp_t h hc
      refine lv_iconst (v := 0) hx hb dX8_at_20 (by decide) ?_
      exact hret _ _ _ _ _ () rfl dX8_at_21 h hP hD hS
    · have h := wp_f h hc
      refine lv_aload_n hx hb dX8_at_14 rfl (lv_at hl 0 rfl) ?_
      refine lv_iload_n hx hb dX8_at_15 rfl (lv_at hl 1 rfl) ?_
      obtain ⟨hin, h⟩ := h
      refine va_iald hx hb hK hP 0 0 rfl rfl hin dX8_at_16 ?_
      refine lv_goto (tgt := 21) hx hb dX8_at_17 (by decide) ?_
      exact hret _ _ _ _ _ () rfl dX8_at_21 h hP hD hS

abbrev rmX5_become : Room := { frames := 3, cells := 0, slots := 0, locals := 64 }
set_option maxHeartbeats 4000000 in
set_option maxRecDepth 100000 in
theorem MX5_become (l : Launch) (G : kG) (s0 s1 s2 s3 q0 q1 q2 q3 : Nat) (s_days : Int32) (s_noBeds : Int32) (s_rows : Nat → Int64) (s_st : Nat → Int32) (q_days : Int32) (q_noBeds : Int32) (q_rows : Nat → Int64) (q_st : Nat → Int32) {K : Int32 → Int32 → (Nat → Int64) → (Nat → Int32) → Prop} (h : wpX5_become s_rows s_st q_days q_noBeds q_rows q_st K) : kV l G yX5_become wsX5_become rmX5_become [.ref s0, .ref q0] [(s0, .inr (5, [.ref s1, .ref s3, .int s_days, .int s_noBeds])), (s1, .inr (7, [.ref s2])), (s2, .inl (G.2.2.1, 6, .inr (.inl s_rows))), (s3, .inl (G.2.1, 48, .inl s_st)), (q0, .inr (5, [.ref q1, .ref q3, .int q_days, .int q_noBeds])), (q1, .inr (7, [.ref q2])), (q2, .inl (G.2.2.1, 6, .inr (.inl q_rows))), (q3, .inl (G.2.1, 48, .inl q_st))] (S := (Int32) × (Int32) × (Nat → Int64) × (Nat → Int32)) (fun u => [(s0, .inr (5, [.ref s1, .ref s3, .int u.1, .int u.2.1])), (s1, .inr (7, [.ref s2])), (s2, .inl (G.2.2.1, 6, .inr (.inl u.2.2.1))), (s3, .inl (G.2.1, 48, .inl u.2.2.2)), (q0, .inr (5, [.ref q1, .ref q3, .int q_days, .int q_noBeds])), (q1, .inr (7, [.ref q2])), (q2, .inl (G.2.2.1, 6, .inr (.inl q_rows))), (q3, .inl (G.2.1, 48, .inl q_st))]) (fun u => K u.1 u.2.1 u.2.2.1 u.2.2.2) 0 0 := by
  refine kV_of (cc := cX5_become) (maxL := 3) (by decide) rfl (Nat.le_of_ble_eq_true rfl) ?_
  intro p e s m below meth c Q A ls Fx hK hN hA hnm hret hP hD hl hS
  obtain ⟨hx, hb, hml, hown, hts⟩ := id Fx
  have hown : s.vm.findClass RX5 = some m.cls := hown
  have hl : lv_has ls 3 [(0, .ref s0), (1, .ref q0)] := hl
  have hiX5 : ∀ w ∈ u_ws RX5 TX5 4, w ∈ wsX5_become := by decide +kernel
  unfold wpX5_become at h
  refine lv_aload_n hx hb dX5_become_0 rfl (lv_at hl 0 rfl) ?_
  refine va_get (D := G.1) (ci := 5) (v := .ref s1) (C := RX5) (T := TX5) (N := 4) hx hb hts hiX5 hown hK hP 0 rfl rfl 0 (by decide) (hts (.fieldLink RX5 12 "LodgingNames$Standing" "words" "LLodgingNames$Words;") (by decide +kernel)) (fun _ h9 => h9) rfl dX5_become_1 ?_
  refine lv_aload_n hx hb dX5_become_4 rfl (lv_at hl 1 rfl) ?_
  refine va_get (D := G.1) (ci := 5) (v := .ref q1) (C := RX5) (T := TX5) (N := 4) hx hb hts hiX5 hown hK hP 4 rfl rfl 0 (by decide) (hts (.fieldLink RX5 12 "LodgingNames$Standing" "words" "LLodgingNames$Words;") (by decide +kernel)) (fun _ h9 => h9) rfl dX5_become_5 ?_
  refine kc_v (Wr := [(s0, .inr (5, [.ref s1, .ref s3, .int s_days, .int s_noBeds])), (s3, .inl (G.2.1, 48, .inl s_st)), (q0, .inr (5, [.ref q1, .ref q3, .int q_days, .int q_noBeds])), (q3, .inl (G.2.1, 48, .inl q_st))]) (va_runV (As := [.ref q1]) (rest := []) Fx (MX7_become l G s1 s2 q1 q2 s_rows q_rows h s.heap.size) (cwV 1 hts gX5_become_X7_become rfl rfl rfl (by decide +kernel) ⟨Nat.le_of_ble_eq_true rfl, Nat.le_of_ble_eq_true rfl⟩) (kpreV hP hD hK hN [1, 2, 5, 6] rfl rfl 1 rfl rfl) rfl rfl hl.1 rfl (lv_room (Nat.le_of_ble_eq_true rfl)) dX5_become_8 ⟨Nat.le_of_ble_eq_true rfl, Nat.le_of_ble_eq_true rfl⟩) hP hD hS hA [1, 2, 5, 6] [0, 3, 4, 7] rfl rfl rfl (by decide +kernel) (fun s_rows_1 H locs h hP hD hS => ?_)
  have hP : va_P G.1 vwCl [(s0, .inr (5, [.ref s1, .ref s3, .int s_days, .int s_noBeds])), (s3, .inl (G.2.1, 48, .inl s_st)), (q0, .inr (5, [.ref q1, .ref q3, .int q_days, .int q_noBeds])), (q3, .inl (G.2.1, 48, .inl q_st)), (s1, .inr (7, [.ref s2])), (s2, .inl (G.2.2.1, 6, .inr (.inl s_rows_1))), (q1, .inr (7, [.ref q2])), (q2, .inl (G.2.2.1, 6, .inr (.inl q_rows)))] H := hP
  have hD : va_D A [(s0, .inr (5, [.ref s1, .ref s3, .int s_days, .int s_noBeds])), (s3, .inl (G.2.1, 48, .inl s_st)), (q0, .inr (5, [.ref q1, .ref q3, .int q_days, .int q_noBeds])), (q3, .inl (G.2.1, 48, .inl q_st)), (s1, .inr (7, [.ref s2])), (s2, .inl (G.2.2.1, 6, .inr (.inl s_rows_1))), (q1, .inr (7, [.ref q2])), (q2, .inl (G.2.2.1, 6, .inr (.inl q_rows)))] := hD
  refine lv_iconst (v := 0) hx hb dX5_become_11 (by decide) ?_
  refine lv_istore_n (lv' := [(2, .int 0), (0, .ref s0), (1, .ref q0)]) hx hb dX5_become_12 rfl hl (by decide) rfl (fun ls hl => ?_)
  have h := h (fun (v_2 : Int32) (s_st_3 : Nat → Int32) => ∀ (H : Heap) (locs : List Loc) (ls : Array Slot), va_P G.1 vwCl [(s0, .inr (5, [.ref s1, .ref s3, .int s_days, .int s_noBeds])), (s1, .inr (7, [.ref s2])), (s2, .inl (G.2.2.1, 6, .inr (.inl s_rows_1))), (s3, .inl (G.2.1, 48, .inl s_st_3)), (q0, .inr (5, [.ref q1, .ref q3, .int q_days, .int q_noBeds])), (q1, .inr (7, [.ref q2])), (q2, .inl (G.2.2.1, 6, .inr (.inl q_rows))), (q3, .inl (G.2.1, 48, .inl q_st))] H → va_D A [(s0, .inr (5, [.ref s1, .ref s3, .int s_days, .int s_noBeds])), (s1, .inr (7, [.ref s2])), (s2, .inl (G.2.2.1, 6, .inr (.inl s_rows_1))), (s3, .inl (G.2.1, 48, .inl s_st_3)), (q0, .inr (5, [.ref q1, .ref q3, .int q_days, .int q_noBeds])), (q1, .inr (7, [.ref q2])), (q2, .inl (G.2.2.1, 6, .inr (.inl q_rows))), (q3, .inl (G.2.1, 48, .inl q_st))] → va_S A s.heap H locs → lv_has ls 3 [(0, .ref s0), (1, .ref q0), (2, .int v_2)] → W p l e rmX5_become s m [.ref s0, .ref q0].toArray below meth c H locs 0 0 Q (F0 m 13 ls []))
  have h := h (fun v_2 s_st_3 h H locs ls hP hD hS hl => by
    refine lv_iload_n hx hb dX5_become_13 rfl (lv_at hl 2 rfl) ?_
    refine lv_bipush (v := 48) hx hb dX5_become_14 (by decide) ?_
    refine lv_icmp_ge (tgt := 41) hx hb dX5_become_16 (by decide) (fun hc => ?_) (fun hc => ?_)
    · have h := wp_t h hc
      refine lv_aload_n hx hb dX5_become_41 rfl (lv_at hl 0 rfl) ?_
      refine lv_aload_n hx hb dX5_become_42 rfl (lv_at hl 1 rfl) ?_
      refine va_get (D := G.1) (ci := 5) (v := .int q_days) (C := RX5) (T := TX5) (N := 4) hx hb hts hiX5 hown hK hP 4 rfl rfl 2 (by decide) (hts (.fieldLink RX5 33 "LodgingNames$Standing" "days" "I") (by decide +kernel)) (fun _ h9 => h9) rfl dX5_become_43 ?_
      refine va_put (D := G.1) (ci := 5) (v := .int q_days) (ty := .int) (C := RX5) (T := TX5) (N := 4) hx hb hts hiX5 tyX5 tyX5_ok nmX5 hown hK hP hD hS 0 rfl rfl 2 (by decide) (hts (.fieldLink RX5 33 "LodgingNames$Standing" "days" "I") (by decide +kernel)) (fun _ h9 => h9) rfl rfl rfl rfl (Nat.le_of_ble_eq_true rfl) dX5_become_46 (fun H locs hP hD hS => ?_)
      have hP : va_P G.1 vwCl [(s0, .inr (5, [.ref s1, .ref s3, .int q_days, .int s_noBeds])), (s1, .inr (7, [.ref s2])), (s2, .inl (G.2.2.1, 6, .inr (.inl s_rows_1))), (s3, .inl (G.2.1, 48, .inl s_st_3)), (q0, .inr (5, [.ref q1, .ref q3, .int q_days, .int q_noBeds])), (q1, .inr (7, [.ref q2])), (q2, .inl (G.2.2.1, 6, .inr (.inl q_rows))), (q3, .inl (G.2.1, 48, .inl q_st))] H := hP
      have hD : va_D A [(s0, .inr (5, [.ref s1, .ref s3, .int q_days, .int s_noBeds])), (s1, .inr (7, [.ref s2])), (s2, .inl (G.2.2.1, 6, .inr (.inl s_rows_1))), (s3, .inl (G.2.1, 48, .inl s_st_3)), (q0, .inr (5, [.ref q1, .ref q3, .int q_days, .int q_noBeds])), (q1, .inr (7, [.ref q2])), (q2, .inl (G.2.2.1, 6, .inr (.inl q_rows))), (q3, .inl (G.2.1, 48, .inl q_st))] := hD
      refine lv_aload_n hx hb dX5_become_49 rfl (lv_at hl 0 rfl) ?_
      refine lv_aload_n hx hb dX5_become_50 rfl (lv_at hl 1 rfl) ?_
      refine va_get (D := G.1) (ci := 5) (v := .int q_noBeds) (C := RX5) (T := TX5) (N := 4) hx hb hts hiX5 hown hK hP 4 rfl rfl 3 (by decide) (hts (.fieldLink RX5 37 "LodgingNames$Standing" "noBeds" "I") (by decide +kernel)) (fun _ h9 => h9) rfl dX5_become_51 ?_
      refine va_put (D := G.1) (ci := 5) (v := .int q_noBeds) (ty := .int) (C := RX5) (T := TX5) (N := 4) hx hb hts hiX5 tyX5 tyX5_ok nmX5 hown hK hP hD hS 0 rfl rfl 3 (by decide) (hts (.fieldLink RX5 37 "LodgingNames$Standing" "noBeds" "I") (by decide +kernel)) (fun _ h9 => h9) rfl rfl rfl rfl (Nat.le_of_ble_eq_true rfl) dX5_become_54 (fun H locs hP hD hS => ?_)
      have hP : va_P G.1 vwCl [(s0, .inr (5, [.ref s1, .ref s3, .int q_days, .int q_noBeds])), (s1, .inr (7, [.ref s2])), (s2, .inl (G.2.2.1, 6, .inr (.inl s_rows_1))), (s3, .inl (G.2.1, 48, .inl s_st_3)), (q0, .inr (5, [.ref q1, .ref q3, .int q_days, .int q_noBeds])), (q1, .inr (7, [.ref q2])), (q2, .inl (G.2.2.1, 6, .inr (.inl q_rows))), (q3, .inl (G.2.1, 48, .inl q_st))] H := hP
      have hD : va_D A [(s0, .inr (5, [.ref s1, .ref s3, .int q_days, .int q_noBeds])), (s1, .inr (7, [.ref s2])), (s2, .inl (G.2.2.1, 6, .inr (.inl s_rows_1))), (s3, .inl (G.2.1, 48, .inl s_st_3)), (q0, .inr (5, [.ref q1, .ref q3, .int q_days, .int q_noBeds])), (q1, .inr (7, [.ref q2])), (q2, .inl (G.2.2.1, 6, .inr (.inl q_rows))), (q3, .inl (G.2.1, 48, .inl q_st))] := hD
      exact hret _ _ _ _ (q_days, q_noBeds, s_rows_1, s_st_3) dX5_become_57 h hP hD hS
    · have h := wp_f h hc
      refine lv_aload_n hx hb dX5_become_19 rfl (lv_at hl 0 rfl) ?_
      refine va_get (D := G.1) (ci := 5) (v := .ref s3) (C := RX5) (T := TX5) (N := 4) hx hb hts hiX5 hown hK hP 0 rfl rfl 1 (by decide) (hts (.fieldLink RX5 18 "LodgingNames$Standing" "stoutness" "[I") (by decide +kernel)) (fun _ h9 => h9) rfl dX5_become_20 ?_
      refine lv_iload_n hx hb dX5_become_23 rfl (lv_at hl 2 rfl) ?_
      refine lv_aload_n hx hb dX5_become_24 rfl (lv_at hl 1 rfl) ?_
      refine va_get (D := G.1) (ci := 5) (v := .ref q3) (C := RX5) (T := TX5) (N := 4) hx hb hts hiX5 hown hK hP 4 rfl rfl 1 (by decide) (hts (.fieldLink RX5 18 "LodgingNames$Standing" "stoutness" "[I") (by decide +kernel)) (fun _ h9 => h9) rfl dX5_become_25 ?_
      refine lv_iload_n hx hb dX5_become_28 rfl (lv_at hl 2 rfl) ?_
      refine kc_i (Wr := [(s0, .inr (5, [.ref s1, .ref s3, .int s_days, .int s_noBeds])), (s1, .inr (7, [.ref s2])), (s2, .inl (G.2.2.1, 6, .inr (.inl s_rows_1))), (s3, .inl (G.2.1, 48, .inl s_st_3)), (q0, .inr (5, [.ref q1, .ref q3, .int q_days, .int q_noBeds])), (q1, .inr (7, [.ref q2])), (q2, .inl (G.2.2.1, 6, .inr (.inl q_rows)))]) (va_runSN (As := [.ref q3, .int v_2]) (rest := [.int v_2, .ref s3]) Fx (MX8_at l G q3 48 q_st v_2 h H.size) ⟨va_cnB (host := RX8) 2 hts gX5_become_X8_at_n40 rfl rfl rfl (hN (.methodLinkNest RX5 40 yX8_at RX8) (by decide +kernel)) (hts (.initialized RX8) (by decide +kernel)) (by decide +kernel) ⟨Nat.le_of_ble_eq_true rfl, Nat.le_of_ble_eq_true rfl⟩, hts (.static yX8_at) (by decide +kernel), trivial⟩ (kpreS hP hD hK hN [7] rfl rfl) rfl rfl hl.1 rfl (lv_room (Nat.le_of_ble_eq_true rfl)) dX5_become_29 ⟨Nat.le_of_ble_eq_true rfl, Nat.le_of_ble_eq_true rfl⟩) hP hD hS hA [7] [0, 1, 2, 3, 4, 5, 6] rfl rfl rfl (by decide +kernel) (fun r_4 u H locs h hP hD hS => ?_)
      have hP : va_P G.1 vwCl [(s0, .inr (5, [.ref s1, .ref s3, .int s_days, .int s_noBeds])), (s1, .inr (7, [.ref s2])), (s2, .inl (G.2.2.1, 6, .inr (.inl s_rows_1))), (s3, .inl (G.2.1, 48, .inl s_st_3)), (q0, .inr (5, [.ref q1, .ref q3, .int q_days, .int q_noBeds])), (q1, .inr (7, [.ref q2])), (q2, .inl (G.2.2.1, 6, .inr (.inl q_rows))), (q3, .inl (G.2.1, 48, .inl q_st))] H := hP
      have hD : va_D A [(s0, .inr (5, [.ref s1, .ref s3, .int s_days, .int s_noBeds])), (s1, .inr (7, [.ref s2])), (s2, .inl (G.2.2.1, 6, .inr (.inl s_rows_1))), (s3, .inl (G.2.1, 48, .inl s_st_3)), (q0, .inr (5, [.ref q1, .ref q3, .int q_days, .int q_noBeds])), (q1, .inr (7, [.ref q2])), (q2, .inl (G.2.2.1, 6, .inr (.inl q_rows))), (q3, .inl (G.2.1, 48, .inl q_st))] := hD
      refine kc_v (Wr := [(s0, .inr (5, [.ref s1, .ref s3, .int s_days, .int s_noBeds])), (s1, .inr (7, [.ref s2])), (s2, .inl (G.2.2.1, 6, .inr (.inl s_rows_1))), (q0, .inr (5, [.ref q1, .ref q3, .int q_days, .int q_noBeds])), (q1, .inr (7, [.ref q2])), (q2, .inl (G.2.2.1, 6, .inr (.inl q_rows))), (q3, .inl (G.2.1, 48, .inl q_st))]) (va_runSN (As := [.ref s3, .int v_2, .int r_4]) (rest := []) Fx (MX8_put l G s3 48 s_st_3 v_2 r_4 h H.size) ⟨va_cnB (host := RX8) 3 hts gX5_become_X8_put_n29 rfl rfl rfl (hN (.methodLinkNest RX5 29 yX8_put RX8) (by decide +kernel)) (hts (.initialized RX8) (by decide +kernel)) (by decide +kernel) ⟨Nat.le_of_ble_eq_true rfl, Nat.le_of_ble_eq_true rfl⟩, hts (.static yX8_put) (by decide +kernel), trivial⟩ (kpreS hP hD hK hN [3] rfl rfl) rfl rfl hl.1 rfl (lv_room (Nat.le_of_ble_eq_true rfl)) dX5_become_32 ⟨Nat.le_of_ble_eq_true rfl, Nat.le_of_ble_eq_true rfl⟩) hP hD hS hA [3] [0, 1, 2, 4, 5, 6, 7] rfl rfl rfl (by decide +kernel) (fun s_st_5 H locs h hP hD hS => ?_)
      have hP : va_P G.1 vwCl [(s0, .inr (5, [.ref s1, .ref s3, .int s_days, .int s_noBeds])), (s1, .inr (7, [.ref s2])), (s2, .inl (G.2.2.1, 6, .inr (.inl s_rows_1))), (q0, .inr (5, [.ref q1, .ref q3, .int q_days, .int q_noBeds])), (q1, .inr (7, [.ref q2])), (q2, .inl (G.2.2.1, 6, .inr (.inl q_rows))), (q3, .inl (G.2.1, 48, .inl q_st)), (s3, .inl (G.2.1, 48, .inl s_st_5))] H := hP
      have hD : va_D A [(s0, .inr (5, [.ref s1, .ref s3, .int s_days, .int s_noBeds])), (s1, .inr (7, [.ref s2])), (s2, .inl (G.2.2.1, 6, .inr (.inl s_rows_1))), (q0, .inr (5, [.ref q1, .ref q3, .int q_days, .int q_noBeds])), (q1, .inr (7, [.ref q2])), (q2, .inl (G.2.2.1, 6, .inr (.inl q_rows))), (q3, .inl (G.2.1, 48, .inl q_st)), (s3, .inl (G.2.1, 48, .inl s_st_5))] := hD
      refine lv_iinc (v := (v_2 + 1)) (lv' := [(2, .int (v_2 + 1)), (0, .ref s0), (1, .ref q0)]) hx hb dX5_become_35 hl (k := 2) rfl rfl (by decide) rfl (fun ls hl => ?_)
      refine lv_goto (tgt := 13) hx hb dX5_become_38 (by decide) ?_
      have hP : va_P G.1 vwCl [(s0, .inr (5, [.ref s1, .ref s3, .int s_days, .int s_noBeds])), (s1, .inr (7, [.ref s2])), (s2, .inl (G.2.2.1, 6, .inr (.inl s_rows_1))), (s3, .inl (G.2.1, 48, .inl s_st_5)), (q0, .inr (5, [.ref q1, .ref q3, .int q_days, .int q_noBeds])), (q1, .inr (7, [.ref q2])), (q2, .inl (G.2.2.1, 6, .inr (.inl q_rows))), (q3, .inl (G.2.1, 48, .inl q_st))] H := hP.sub [0, 1, 2, 7, 3, 4, 5, 6] rfl
      have hD : va_D A [(s0, .inr (5, [.ref s1, .ref s3, .int s_days, .int s_noBeds])), (s1, .inr (7, [.ref s2])), (s2, .inl (G.2.2.1, 6, .inr (.inl s_rows_1))), (s3, .inl (G.2.1, 48, .inl s_st_5)), (q0, .inr (5, [.ref q1, .ref q3, .int q_days, .int q_noBeds])), (q1, .inr (7, [.ref q2])), (q2, .inl (G.2.2.1, 6, .inr (.inl q_rows))), (q3, .inl (G.2.1, 48, .inl q_st))] := hD.sub [0, 1, 2, 7, 3, 4, 5, 6] (by decide) rfl
      exact h _ _ _ hP hD hS (lv_sub hl [1, 2, 0] rfl))
  have hP : va_P G.1 vwCl [(s0, .inr (5, [.ref s1, .ref s3, .int s_days, .int s_noBeds])), (s1, .inr (7, [.ref s2])), (s2, .inl (G.2.2.1, 6, .inr (.inl s_rows_1))), (s3, .inl (G.2.1, 48, .inl s_st)), (q0, .inr (5, [.ref q1, .ref q3, .int q_days, .int q_noBeds])), (q1, .inr (7, [.ref q2])), (q2, .inl (G.2.2.1, 6, .inr (.inl q_rows))), (q3, .inl (G.2.1, 48, .inl q_st))] H := hP.sub [0, 4, 5, 1, 2, 6, 7, 3] rfl
  have hD : va_D A [(s0, .inr (5, [.ref s1, .ref s3, .int s_days, .int s_noBeds])), (s1, .inr (7, [.ref s2])), (s2, .inl (G.2.2.1, 6, .inr (.inl s_rows_1))), (s3, .inl (G.2.1, 48, .inl s_st)), (q0, .inr (5, [.ref q1, .ref q3, .int q_days, .int q_noBeds])), (q1, .inr (7, [.ref q2])), (q2, .inl (G.2.2.1, 6, .inr (.inl q_rows))), (q3, .inl (G.2.1, 48, .inl q_st))] := hD.sub [0, 4, 5, 1, 2, 6, 7, 3] (by decide) rfl
  exact h _ _ _ hP hD hS (lv_sub hl [1, 2, 0] rfl)

abbrev rmX5_stoutAt : Room := { frames := 1, cells := 0, slots := 0, locals := 21 }
set_option maxHeartbeats 4000000 in
set_option maxRecDepth 100000 in
theorem MX5_stoutAt (l : Launch) (G : kG) (s0 s1 s2 s3 : Nat) (s_days : Int32) (s_noBeds : Int32) (s_rows : Nat → Int64) (s_st : Nat → Int32) (a1 : Int32) (a2 : Int32) {K : Int32 → Prop} (h : wpX5_stoutAt s_st a1 a2 K) : kI l G yX5_stoutAt wsX5_stoutAt rmX5_stoutAt [.ref s0, .int a1, .int a2] [(s0, .inr (5, [.ref s1, .ref s3, .int s_days, .int s_noBeds])), (s1, .inr (7, [.ref s2])), (s2, .inl (G.2.2.1, 6, .inr (.inl s_rows))), (s3, .inl (G.2.1, 48, .inl s_st))] (S := Unit) (fun _ => [(s0, .inr (5, [.ref s1, .ref s3, .int s_days, .int s_noBeds])), (s1, .inr (7, [.ref s2])), (s2, .inl (G.2.2.1, 6, .inr (.inl s_rows))), (s3, .inl (G.2.1, 48, .inl s_st))]) (fun r u => K r) 0 0 := by
  refine kI_of (cc := cX5_stoutAt) (maxL := 3) (ret := .int) (by decide) rfl (Nat.le_of_ble_eq_true rfl) ?_
  intro p e s m below meth c Q A ls Fx hK hN hA hnm hret hP hD hl hS
  obtain ⟨hx, hb, hml, hown, hts⟩ := id Fx
  have hown : s.vm.findClass RX5 = some m.cls := hown
  have hl : lv_has ls 3 [(0, .ref s0), (1, .int a1), (2, .int a2)] := hl
  have hiX5 : ∀ w ∈ u_ws RX5 TX5 4, w ∈ wsX5_stoutAt := by decide +kernel
  unfold wpX5_stoutAt at h
  refine lv_aload_n hx hb dX5_stoutAt_0 rfl (lv_at hl 0 rfl) ?_
  refine va_get (D := G.1) (ci := 5) (v := .ref s3) (C := RX5) (T := TX5) (N := 4) hx hb hts hiX5 hown hK hP 0 rfl rfl 1 (by decide) (hts (.fieldLink RX5 18 "LodgingNames$Standing" "stoutness" "[I") (by decide +kernel)) (fun _ h9 => h9) rfl dX5_stoutAt_1 ?_
  refine lv_bipush (v := 8) hx hb dX5_stoutAt_4 (by decide) ?_
  refine lv_iload_n hx hb dX5_stoutAt_6 rfl (lv_at hl 1 rfl) ?_
  refine lv_imul hx hb dX5_stoutAt_7 ?_
  refine lv_iload_n hx hb dX5_stoutAt_8 rfl (lv_at hl 2 rfl) ?_
  refine lv_iadd hx hb dX5_stoutAt_9 ?_
  refine kc_i (Wr := [(s0, .inr (5, [.ref s1, .ref s3, .int s_days, .int s_noBeds])), (s1, .inr (7, [.ref s2])), (s2, .inl (G.2.2.1, 6, .inr (.inl s_rows)))]) (va_runSN (As := [.ref s3, .int ((8 * a1) + a2)]) (rest := []) Fx (MX8_at l G s3 48 s_st ((8 * a1) + a2) h s.heap.size) ⟨va_cnB (host := RX8) 2 hts gX5_stoutAt_X8_at_n40 rfl rfl rfl (hN (.methodLinkNest RX5 40 yX8_at RX8) (by decide +kernel)) (hts (.initialized RX8) (by decide +kernel)) (by decide +kernel) ⟨Nat.le_of_ble_eq_true rfl, Nat.le_of_ble_eq_true rfl⟩, hts (.static yX8_at) (by decide +kernel), trivial⟩ (kpreS hP hD hK hN [3] rfl rfl) rfl rfl hl.1 rfl (lv_room (Nat.le_of_ble_eq_true rfl)) dX5_stoutAt_10 ⟨Nat.le_of_ble_eq_true rfl, Nat.le_of_ble_eq_true rfl⟩) hP hD hS hA [3] [0, 1, 2] rfl rfl rfl (by decide +kernel) (fun r_1 u H locs h hP hD hS => ?_)
  have hP : va_P G.1 vwCl [(s0, .inr (5, [.ref s1, .ref s3, .int s_days, .int s_noBeds])), (s1, .inr (7, [.ref s2])), (s2, .inl (G.2.2.1, 6, .inr (.inl s_rows))), (s3, .inl (G.2.1, 48, .inl s_st))] H := hP
  have hD : va_D A [(s0, .inr (5, [.ref s1, .ref s3, .int s_days, .int s_noBeds])), (s1, .inr (7, [.ref s2])), (s2, .inl (G.2.2.1, 6, .inr (.inl s_rows))), (s3, .inl (G.2.1, 48, .inl s_st))] := hD
  exact hret _ _ _ _ _ () rfl dX5_stoutAt_13 h hP hD hS

abbrev rmX5_setStout : Room := { frames := 1, cells := 0, slots := 0, locals := 22 }
set_option maxHeartbeats 4000000 in
set_option maxRecDepth 100000 in
theorem MX5_setStout (l : Launch) (G : kG) (s0 s1 s2 s3 : Nat) (s_days : Int32) (s_noBeds : Int32) (s_rows : Nat → Int64) (s_st : Nat → Int32) (a1 : Int32) (a2 : Int32) (a3 : Int32) {K : (Nat → Int32) → Prop} (h : wpX5_setStout s_st a1 a2 a3 K) : kV l G yX5_setStout wsX5_setStout rmX5_setStout [.ref s0, .int a1, .int a2, .int a3] [(s0, .inr (5, [.ref s1, .ref s3, .int s_days, .int s_noBeds])), (s1, .inr (7, [.ref s2])), (s2, .inl (G.2.2.1, 6, .inr (.inl s_rows))), (s3, .inl (G.2.1, 48, .inl s_st))] (S := (Nat → Int32)) (fun u => [(s0, .inr (5, [.ref s1, .ref s3, .int s_days, .int s_noBeds])), (s1, .inr (7, [.ref s2])), (s2, .inl (G.2.2.1, 6, .inr (.inl s_rows))), (s3, .inl (G.2.1, 48, .inl u))]) (fun u => K u) 0 0 := by
  refine kV_of (cc := cX5_setStout) (maxL := 4) (by decide) rfl (Nat.le_of_ble_eq_true rfl) ?_
  intro p e s m below meth c Q A ls Fx hK hN hA hnm hret hP hD hl hS
  obtain ⟨hx, hb, hml, hown, hts⟩ := id Fx
  have hown : s.vm.findClass RX5 = some m.cls := hown
  have hl : lv_has ls 4 [(0, .ref s0), (1, .int a1), (2, .int a2), (3, .int a3)] := hl
  have hiX5 : ∀ w ∈ u_ws RX5 TX5 4, w ∈ wsX5_setStout := by decide +kernel
  unfold wpX5_setStout at h
  refine lv_aload_n hx hb dX5_setStout_0 rfl (lv_at hl 0 rfl) ?_
  refine va_get (D := G.1) (ci := 5) (v := .ref s3) (C := RX5) (T := TX5) (N := 4) hx hb hts hiX5 hown hK hP 0 rfl rfl 1 (by decide) (hts (.fieldLink RX5 18 "LodgingNames$Standing" "stoutness" "[I") (by decide +kernel)) (fun _ h9 => h9) rfl dX5_setStout_1 ?_
  refine lv_bipush (v := 8) hx hb dX5_setStout_4 (by decide) ?_
  refine lv_iload_n hx hb dX5_setStout_6 rfl (lv_at hl 1 rfl) ?_
  refine lv_imul hx hb dX5_setStout_7 ?_
  refine lv_iload_n hx hb dX5_setStout_8 rfl (lv_at hl 2 rfl) ?_
  refine lv_iadd hx hb dX5_setStout_9 ?_
  refine lv_iload_n hx hb dX5_setStout_10 rfl (lv_at hl 3 rfl) ?_
  refine kc_v (Wr := [(s0, .inr (5, [.ref s1, .ref s3, .int s_days, .int s_noBeds])), (s1, .inr (7, [.ref s2])), (s2, .inl (G.2.2.1, 6, .inr (.inl s_rows)))]) (va_runSN (As := [.ref s3, .int ((8 * a1) + a2), .int a3]) (rest := []) Fx (MX8_put l G s3 48 s_st ((8 * a1) + a2) a3 h s.heap.size) ⟨va_cnB (host := RX8) 3 hts gX5_setStout_X8_put_n29 rfl rfl rfl (hN (.methodLinkNest RX5 29 yX8_put RX8) (by decide +kernel)) (hts (.initialized RX8) (by decide +kernel)) (by decide +kernel) ⟨Nat.le_of_ble_eq_true rfl, Nat.le_of_ble_eq_true rfl⟩, hts (.static yX8_put) (by decide +kernel), trivial⟩ (kpreS hP hD hK hN [3] rfl rfl) rfl rfl hl.1 rfl (lv_room (Nat.le_of_ble_eq_true rfl)) dX5_setStout_11 ⟨Nat.le_of_ble_eq_true rfl, Nat.le_of_ble_eq_true rfl⟩) hP hD hS hA [3] [0, 1, 2] rfl rfl rfl (by decide +kernel) (fun s_st_1 H locs h hP hD hS => ?_)
  have hP : va_P G.1 vwCl [(s0, .inr (5, [.ref s1, .ref s3, .int s_days, .int s_noBeds])), (s1, .inr (7, [.ref s2])), (s2, .inl (G.2.2.1, 6, .inr (.inl s_rows))), (s3, .inl (G.2.1, 48, .inl s_st_1))] H := hP
  have hD : va_D A [(s0, .inr (5, [.ref s1, .ref s3, .int s_days, .int s_noBeds])), (s1, .inr (7, [.ref s2])), (s2, .inl (G.2.2.1, 6, .inr (.inl s_rows))), (s3, .inl (G.2.1, 48, .inl s_st_1))] := hD
  exact hret _ _ _ _ (s_st_1) dX5_setStout_14 h hP hD hS

abbrev rmX5_lodgings : Room := { frames := 1, cells := 0, slots := 0, locals := 21 }
set_option maxHeartbeats 4000000 in
set_option maxRecDepth 100000 in
theorem MX5_lodgings (l : Launch) (G : kG) (s0 s1 s2 s3 : Nat) (s_days : Int32) (s_noBeds : Int32) (s_rows : Nat → Int64) (s_st : Nat → Int32) {K : Int32 → Prop} (h : wpX5_lodgings s_st K) : kI l G yX5_lodgings wsX5_lodgings rmX5_lodgings [.ref s0] [(s0, .inr (5, [.ref s1, .ref s3, .int s_days, .int s_noBeds])), (s1, .inr (7, [.ref s2])), (s2, .inl (G.2.2.1, 6, .inr (.inl s_rows))), (s3, .inl (G.2.1, 48, .inl s_st))] (S := Unit) (fun _ => [(s0, .inr (5, [.ref s1, .ref s3, .int s_days, .int s_noBeds])), (s1, .inr (7, [.ref s2])), (s2, .inl (G.2.2.1, 6, .inr (.inl s_rows))), (s3, .inl (G.2.1, 48, .inl s_st))]) (fun r u => K r) 0 0 := by
  refine kI_of (cc := cX5_lodgings) (maxL := 3) (ret := .int) (by decide) rfl (Nat.le_of_ble_eq_true rfl) ?_
  intro p e s m below meth c Q A ls Fx hK hN hA hnm hret hP hD hl hS
  obtain ⟨hx, hb, hml, hown, hts⟩ := id Fx
  have hown : s.vm.findClass RX5 = some m.cls := hown
  have hl : lv_has ls 3 [(0, .ref s0)] := hl
  have hiX5 : ∀ w ∈ u_ws RX5 TX5 4, w ∈ wsX5_lodgings := by decide +kernel
  unfold wpX5_lodgings at h
  refine lv_iconst (v := 0) hx hb dX5_lodgings_0 (by decide) ?_
  refine lv_istore_n (lv' := [(1, .int 0), (0, .ref s0)]) hx hb dX5_lodgings_1 rfl hl (by decide) rfl (fun ls hl => ?_)
  refine lv_iconst (v := 0) hx hb dX5_lodgings_2 (by decide) ?_
  refine lv_istore_n (lv' := [(2, .int 0), (1, .int 0), (0, .ref s0)]) hx hb dX5_lodgings_3 rfl hl (by decide) rfl (fun ls hl => ?_)
  have h := h (fun (v_1 : Int32) (v_2 : Int32) => ∀ (H : Heap) (locs : List Loc) (ls : Array Slot), va_P G.1 vwCl [(s0, .inr (5, [.ref s1, .ref s3, .int s_days, .int s_noBeds])), (s1, .inr (7, [.ref s2])), (s2, .inl (G.2.2.1, 6, .inr (.inl s_rows))), (s3, .inl (G.2.1, 48, .inl s_st))] H → va_D A [(s0, .inr (5, [.ref s1, .ref s3, .int s_days, .int s_noBeds])), (s1, .inr (7, [.ref s2])), (s2, .inl (G.2.2.1, 6, .inr (.inl s_rows))), (s3, .inl (G.2.1, 48, .inl s_st))] → va_S A s.heap H locs → lv_has ls 3 [(0, .ref s0), (1, .int v_1), (2, .int v_2)] → W p l e rmX5_lodgings s m [.ref s0].toArray below meth c H locs 0 0 Q (F0 m 4 ls []))
  have h := h (fun v_1 v_2 h H locs ls hP hD hS hl => by
    refine lv_iload_n hx hb dX5_lodgings_4 rfl (lv_at hl 2 rfl) ?_
    refine lv_bipush (v := 48) hx hb dX5_lodgings_5 (by decide) ?_
    refine lv_icmp_ge (tgt := 30) hx hb dX5_lodgings_7 (by decide) (fun hc => ?_) (fun hc => ?_)
    · have h := wp_t h hc
      refine lv_iload_n hx hb dX5_lodgings_30 rfl (lv_at hl 1 rfl) ?_
      exact hret _ _ _ _ _ () rfl dX5_lodgings_31 h hP hD hS
    · have h := wp_f h hc
      refine lv_aload_n hx hb dX5_lodgings_10 rfl (lv_at hl 0 rfl) ?_
      refine va_get (D := G.1) (ci := 5) (v := .ref s3) (C := RX5) (T := TX5) (N := 4) hx hb hts hiX5 hown hK hP 0 rfl rfl 1 (by decide) (hts (.fieldLink RX5 18 "LodgingNames$Standing" "stoutness" "[I") (by decide +kernel)) (fun _ h9 => h9) rfl dX5_lodgings_11 ?_
      refine lv_iload_n hx hb dX5_lodgings_14 rfl (lv_at hl 2 rfl) ?_
      refine kc_i (Wr := [(s0, .inr (5, [.ref s1, .ref s3, .int s_days, .int s_noBeds])), (s1, .inr (7, [.ref s2])), (s2, .inl (G.2.2.1, 6, .inr (.inl s_rows)))]) (va_runSN (As := [.ref s3, .int v_2]) (rest := []) Fx (MX8_at l G s3 48 s_st v_2 h H.size) ⟨va_cnB (host := RX8) 2 hts gX5_lodgings_X8_at_n40 rfl rfl rfl (hN (.methodLinkNest RX5 40 yX8_at RX8) (by decide +kernel)) (hts (.initialized RX8) (by decide +kernel)) (by decide +kernel) ⟨Nat.le_of_ble_eq_true rfl, Nat.le_of_ble_eq_true rfl⟩, hts (.static yX8_at) (by decide +kernel), trivial⟩ (kpreS hP hD hK hN [3] rfl rfl) rfl rfl hl.1 rfl (lv_room (Nat.le_of_ble_eq_true rfl)) dX5_lodgings_15 ⟨Nat.le_of_ble_eq_true rfl, Nat.le_of_ble_eq_true rfl⟩) hP hD hS hA [3] [0, 1, 2] rfl rfl rfl (by decide +kernel) (fun r_3 u H locs h hP hD hS => ?_)
      have hP : va_P G.1 vwCl [(s0, .inr (5, [.ref s1, .ref s3, .int s_days, .int s_noBeds])), (s1, .inr (7, [.ref s2])), (s2, .inl (G.2.2.1, 6, .inr (.inl s_rows))), (s3, .inl (G.2.1, 48, .inl s_st))] H := hP
      have hD : va_D A [(s0, .inr (5, [.ref s1, .ref s3, .int s_days, .int s_noBeds])), (s1, .inr (7, [.ref s2])), (s2, .inl (G.2.2.1, 6, .inr (.inl s_rows))), (s3, .inl (G.2.1, 48, .inl s_st))] := hD
      have h := h (fun (v_4 : Int32) => ∀ (H : Heap) (locs : List Loc) (ls : Array Slot), va_P G.1 vwCl [(s0, .inr (5, [.ref s1, .ref s3, .int s_days, .int s_noBeds])), (s1, .inr (7, [.ref s2])), (s2, .inl (G.2.2.1, 6, .inr (.inl s_rows))), (s3, .inl (G.2.1, 48, .inl s_st))] H → va_D A [(s0, .inr (5, [.ref s1, .ref s3, .int s_days, .int s_noBeds])), (s1, .inr (7, [.ref s2])), (s2, .inl (G.2.2.1, 6, .inr (.inl s_rows))), (s3, .inl (G.2.1, 48, .inl s_st))] → va_S A s.heap H locs → lv_has ls 3 [(0, .ref s0), (1, .int v_4), (2, .int v_2)] → W p l e rmX5_lodgings s m [.ref s0].toArray below meth c H locs 0 0 Q (F0 m 24 ls []))
      have h := h (fun v_4 h H locs ls hP hD hS hl => by
        refine lv_iinc (v := (v_2 + 1)) (lv' := [(2, .int (v_2 + 1)), (0, .ref s0), (1, .int v_4)]) hx hb dX5_lodgings_24 hl (k := 2) rfl rfl (by decide) rfl (fun ls hl => ?_)
        refine lv_goto (tgt := 4) hx hb dX5_lodgings_27 (by decide) ?_
        exact h _ _ _ hP hD hS (lv_sub hl [1, 2, 0] rfl))
      refine lv_if_le (tgt := 24) hx hb dX5_lodgings_18 (by decide) (fun hc => ?_) (fun hc => ?_)
      · have h := wp_t h hc
        exact h _ _ _ hP hD hS (lv_sub hl [0, 1, 2] rfl)
      · have h := wp_f h hc
        refine lv_iinc (v := (v_1 + 1)) (lv' := [(1, .int (v_1 + 1)), (0, .ref s0), (2, .int v_2)]) hx hb dX5_lodgings_21 hl (k := 1) rfl rfl (by decide) rfl (fun ls hl => ?_)
        exact h _ _ _ hP hD hS (lv_sub hl [1, 0, 2] rfl))
  exact h _ _ _ hP hD hS (lv_sub hl [2, 1, 0] rfl)

abbrev rmX5_thinAll : Room := { frames := 2, cells := 0, slots := 0, locals := 45 }
set_option maxHeartbeats 4000000 in
set_option maxRecDepth 100000 in
theorem MX5_thinAll (l : Launch) (G : kG) (s0 s1 s2 s3 : Nat) (s_days : Int32) (s_noBeds : Int32) (s_rows : Nat → Int64) (s_st : Nat → Int32) (a1 : Int32) {K : (Nat → Int32) → Prop} (h : wpX5_thinAll s_st a1 K) : kV l G yX5_thinAll wsX5_thinAll rmX5_thinAll [.ref s0, .int a1] [(s0, .inr (5, [.ref s1, .ref s3, .int s_days, .int s_noBeds])), (s1, .inr (7, [.ref s2])), (s2, .inl (G.2.2.1, 6, .inr (.inl s_rows))), (s3, .inl (G.2.1, 48, .inl s_st))] (S := (Nat → Int32)) (fun u => [(s0, .inr (5, [.ref s1, .ref s3, .int s_days, .int s_noBeds])), (s1, .inr (7, [.ref s2])), (s2, .inl (G.2.2.1, 6, .inr (.inl s_rows))), (s3, .inl (G.2.1, 48, .inl u))]) (fun u => K u) 0 0 := by
  refine kV_of (cc := cX5_thinAll) (maxL := 3) (by decide) rfl (Nat.le_of_ble_eq_true rfl) ?_
  intro p e s m below meth c Q A ls Fx hK hN hA hnm hret hP hD hl hS
  obtain ⟨hx, hb, hml, hown, hts⟩ := id Fx
  have hown : s.vm.findClass RX5 = some m.cls := hown
  have hl : lv_has ls 3 [(0, .ref s0), (1, .int a1)] := hl
  unfold wpX5_thinAll at h
  refine lv_iconst (v := 0) hx hb dX5_thinAll_0 (by decide) ?_
  refine lv_istore_n (lv' := [(2, .int 0), (0, .ref s0), (1, .int a1)]) hx hb dX5_thinAll_1 rfl hl (by decide) rfl (fun ls hl => ?_)
  have h := h (fun (v_1 : Int32) (s_st_2 : Nat → Int32) => ∀ (H : Heap) (locs : List Loc) (ls : Array Slot), va_P G.1 vwCl [(s0, .inr (5, [.ref s1, .ref s3, .int s_days, .int s_noBeds])), (s1, .inr (7, [.ref s2])), (s2, .inl (G.2.2.1, 6, .inr (.inl s_rows))), (s3, .inl (G.2.1, 48, .inl s_st_2))] H → va_D A [(s0, .inr (5, [.ref s1, .ref s3, .int s_days, .int s_noBeds])), (s1, .inr (7, [.ref s2])), (s2, .inl (G.2.2.1, 6, .inr (.inl s_rows))), (s3, .inl (G.2.1, 48, .inl s_st_2))] → va_S A s.heap H locs → lv_has ls 3 [(0, .ref s0), (1, .int a1), (2, .int v_1)] → W p l e rmX5_thinAll s m [.ref s0, .int a1].toArray below meth c H locs 0 0 Q (F0 m 2 ls []))
  have h := h (fun v_1 s_st_2 h H locs ls hP hD hS hl => by
    refine lv_iload_n hx hb dX5_thinAll_2 rfl (lv_at hl 2 rfl) ?_
    refine lv_bipush (v := 8) hx hb dX5_thinAll_3 (by decide) ?_
    refine lv_icmp_ge (tgt := 32) hx hb dX5_thinAll_5 (by decide) (fun hc => ?_) (fun hc => ?_)
    · have h := wp_t h hc
      exact hret _ _ _ _ (s_st_2) dX5_thinAll_32 h hP hD hS
    · have h := wp_f h hc
      refine lv_aload_n hx hb dX5_thinAll_8 rfl (lv_at hl 0 rfl) ?_
      refine lv_iload_n hx hb dX5_thinAll_9 rfl (lv_at hl 1 rfl) ?_
      refine lv_iload_n hx hb dX5_thinAll_10 rfl (lv_at hl 2 rfl) ?_
      refine lv_iconst (v := 0) hx hb dX5_thinAll_11 (by decide) ?_
      refine lv_aload_n hx hb dX5_thinAll_12 rfl (lv_at hl 0 rfl) ?_
      refine lv_iload_n hx hb dX5_thinAll_13 rfl (lv_at hl 1 rfl) ?_
      refine lv_iload_n hx hb dX5_thinAll_14 rfl (lv_at hl 2 rfl) ?_
      refine kc_i (Wr := []) (va_runV (As := [.int a1, .int v_1]) (rest := [.int 0, .int v_1, .int a1, .ref s0]) Fx (MX5_stoutAt l G s0 s1 s2 s3 s_days s_noBeds s_rows s_st_2 a1 v_1 h H.size) (cwV 2 hts gX5_thinAll_X5_stoutAt rfl rfl rfl (by decide +kernel) ⟨Nat.le_of_ble_eq_true rfl, Nat.le_of_ble_eq_true rfl⟩) (kpreV hP hD hK hN [0, 1, 2, 3] rfl rfl 0 rfl rfl) rfl rfl hl.1 rfl (lv_room (Nat.le_of_ble_eq_true rfl)) dX5_thinAll_15 ⟨Nat.le_of_ble_eq_true rfl, Nat.le_of_ble_eq_true rfl⟩) hP hD hS hA [0, 1, 2, 3] [] rfl rfl rfl (by decide +kernel) (fun r_3 u H locs h hP hD hS => ?_)
      have hP : va_P G.1 vwCl [(s0, .inr (5, [.ref s1, .ref s3, .int s_days, .int s_noBeds])), (s1, .inr (7, [.ref s2])), (s2, .inl (G.2.2.1, 6, .inr (.inl s_rows))), (s3, .inl (G.2.1, 48, .inl s_st_2))] H := hP
      have hD : va_D A [(s0, .inr (5, [.ref s1, .ref s3, .int s_days, .int s_noBeds])), (s1, .inr (7, [.ref s2])), (s2, .inl (G.2.2.1, 6, .inr (.inl s_rows))), (s3, .inl (G.2.1, 48, .inl s_st_2))] := hD
      refine lv_iconst (v := 1) hx hb dX5_thinAll_18 (by decide) ?_
      refine lv_isub hx hb dX5_thinAll_19 ?_
      refine va_mmax hx hb (hml.trans hl.1.symm) hown (hts (.methodLink RX5 48 Lib.Math.max.name) (by decide +kernel)) (hts (.static Lib.Math.max.name) (by decide +kernel)) (hts (.initialized "java/lang/Math") (by decide +kernel)) (hts (.code Lib.Math.max.name Lib.Math.max.code 2 (some .int)) (by decide +kernel)) (Nat.le_of_ble_eq_true rfl) (Nat.le_of_ble_eq_true rfl) (Nat.le_of_ble_eq_true rfl) (Nat.le_of_ble_eq_true rfl) dX5_thinAll_20 ?_
      refine kc_v (Wr := []) (va_runV (As := [.int a1, .int v_1, .int (if 0 < (r_3 - 1) then (r_3 - 1) else 0)]) (rest := []) Fx (MX5_setStout l G s0 s1 s2 s3 s_days s_noBeds s_rows s_st_2 a1 v_1 (if 0 < (r_3 - 1) then (r_3 - 1) else 0) h H.size) (cwV 3 hts gX5_thinAll_X5_setStout rfl rfl rfl (by decide +kernel) ⟨Nat.le_of_ble_eq_true rfl, Nat.le_of_ble_eq_true rfl⟩) (kpreV hP hD hK hN [0, 1, 2, 3] rfl rfl 0 rfl rfl) rfl rfl hl.1 rfl (lv_room (Nat.le_of_ble_eq_true rfl)) dX5_thinAll_23 ⟨Nat.le_of_ble_eq_true rfl, Nat.le_of_ble_eq_true rfl⟩) hP hD hS hA [0, 1, 2, 3] [] rfl rfl rfl (by decide +kernel) (fun s_st_4 H locs h hP hD hS => ?_)
      have hP : va_P G.1 vwCl [(s0, .inr (5, [.ref s1, .ref s3, .int s_days, .int s_noBeds])), (s1, .inr (7, [.ref s2])), (s2, .inl (G.2.2.1, 6, .inr (.inl s_rows))), (s3, .inl (G.2.1, 48, .inl s_st_4))] H := hP
      have hD : va_D A [(s0, .inr (5, [.ref s1, .ref s3, .int s_days, .int s_noBeds])), (s1, .inr (7, [.ref s2])), (s2, .inl (G.2.2.1, 6, .inr (.inl s_rows))), (s3, .inl (G.2.1, 48, .inl s_st_4))] := hD
      refine lv_iinc (v := (v_1 + 1)) (lv' := [(2, .int (v_1 + 1)), (0, .ref s0), (1, .int a1)]) hx hb dX5_thinAll_26 hl (k := 2) rfl rfl (by decide) rfl (fun ls hl => ?_)
      refine lv_goto (tgt := 2) hx hb dX5_thinAll_29 (by decide) ?_
      exact h _ _ _ hP hD hS (lv_sub hl [1, 2, 0] rfl))
  exact h _ _ _ hP hD hS (lv_sub hl [1, 2, 0] rfl)

abbrev rmX3_clear : Room := { frames := 2, cells := 0, slots := 0, locals := 44 }
set_option maxHeartbeats 4000000 in
set_option maxRecDepth 100000 in
theorem MX3_clear (l : Launch) (G : kG) (p0 p1 p2 p3 p4 p5 p6 p7 : Nat) (p_persons : Int32) (p_names : Int32) (p_quarrel : Int32) (p_kinds : Nat → Int32) (p_beds : Nat → Int32) (p_foods : Nat → Int32) (p_unkind : Nat → Int32) (p_eats : Nat → Int32) (p_rows : Nat → Int64) {K : Int32 → Int32 → Int32 → (Nat → Int64) → Prop} (h : wpX3_clear p_rows K) : kV l G yX3_clear wsX3_clear rmX3_clear [.ref p0] [(p0, .inr (3, [.ref p1, .ref p2, .ref p3, .ref p4, .ref p5, .ref p6, .int p_persons, .int p_names, .int p_quarrel])), (p1, .inl (G.2.1, 6, .inl p_kinds)), (p2, .inl (G.2.1, 6, .inl p_beds)), (p3, .inl (G.2.1, 6, .inl p_foods)), (p4, .inl (G.2.1, 8, .inl p_unkind)), (p5, .inl (G.2.1, 8, .inl p_eats)), (p6, .inr (7, [.ref p7])), (p7, .inl (G.2.2.1, 6, .inr (.inl p_rows)))] (S := (Int32) × (Int32) × (Int32) × (Nat → Int64)) (fun u => [(p0, .inr (3, [.ref p1, .ref p2, .ref p3, .ref p4, .ref p5, .ref p6, .int u.1, .int u.2.1, .int u.2.2.1])), (p1, .inl (G.2.1, 6, .inl p_kinds)), (p2, .inl (G.2.1, 6, .inl p_beds)), (p3, .inl (G.2.1, 6, .inl p_foods)), (p4, .inl (G.2.1, 8, .inl p_unkind)), (p5, .inl (G.2.1, 8, .inl p_eats)), (p6, .inr (7, [.ref p7])), (p7, .inl (G.2.2.1, 6, .inr (.inl u.2.2.2)))]) (fun u => K u.1 u.2.1 u.2.2.1 u.2.2.2) 0 0 := by
  refine kV_of (cc := cX3_clear) (maxL := 1) (by decide) rfl (Nat.le_of_ble_eq_true rfl) ?_
  intro p e s m below meth c Q A ls Fx hK hN hA hnm hret hP hD hl hS
  obtain ⟨hx, hb, hml, hown, hts⟩ := id Fx
  have hown : s.vm.findClass RX3 = some m.cls := hown
  have hl : lv_has ls 1 [(0, .ref p0)] := hl
  have hiX3 : ∀ w ∈ u_ws RX3 TX3 9, w ∈ wsX3_clear := by decide +kernel
  unfold wpX3_clear at h
  refine lv_aload_n hx hb dX3_clear_0 rfl (lv_at hl 0 rfl) ?_
  refine lv_iconst (v := 0) hx hb dX3_clear_1 (by decide) ?_
  refine va_put (D := G.1) (ci := 3) (v := .int 0) (ty := .int) (C := RX3) (T := TX3) (N := 9) hx hb hts hiX3 tyX3 tyX3_ok nmX3 hown hK hP hD hS 0 rfl rfl 6 (by decide) (hts (.fieldLink RX3 34 "LodgingNames$Port" "persons" "I") (by decide +kernel)) (fun _ h9 => h9) rfl rfl rfl rfl (Nat.le_of_ble_eq_true rfl) dX3_clear_2 (fun H locs hP hD hS => ?_)
  have hP : va_P G.1 vwCl [(p0, .inr (3, [.ref p1, .ref p2, .ref p3, .ref p4, .ref p5, .ref p6, .int 0, .int p_names, .int p_quarrel])), (p1, .inl (G.2.1, 6, .inl p_kinds)), (p2, .inl (G.2.1, 6, .inl p_beds)), (p3, .inl (G.2.1, 6, .inl p_foods)), (p4, .inl (G.2.1, 8, .inl p_unkind)), (p5, .inl (G.2.1, 8, .inl p_eats)), (p6, .inr (7, [.ref p7])), (p7, .inl (G.2.2.1, 6, .inr (.inl p_rows)))] H := hP
  have hD : va_D A [(p0, .inr (3, [.ref p1, .ref p2, .ref p3, .ref p4, .ref p5, .ref p6, .int 0, .int p_names, .int p_quarrel])), (p1, .inl (G.2.1, 6, .inl p_kinds)), (p2, .inl (G.2.1, 6, .inl p_beds)), (p3, .inl (G.2.1, 6, .inl p_foods)), (p4, .inl (G.2.1, 8, .inl p_unkind)), (p5, .inl (G.2.1, 8, .inl p_eats)), (p6, .inr (7, [.ref p7])), (p7, .inl (G.2.2.1, 6, .inr (.inl p_rows)))] := hD
  refine lv_aload_n hx hb dX3_clear_5 rfl (lv_at hl 0 rfl) ?_
  refine lv_iconst (v := 0) hx hb dX3_clear_6 (by decide) ?_
  refine va_put (D := G.1) (ci := 3) (v := .int 0) (ty := .int) (C := RX3) (T := TX3) (N := 9) hx hb hts hiX3 tyX3 tyX3_ok nmX3 hown hK hP hD hS 0 rfl rfl 7 (by decide) (hts (.fieldLink RX3 38 "LodgingNames$Port" "names" "I") (by decide +kernel)) (fun _ h9 => h9) rfl rfl rfl rfl (Nat.le_of_ble_eq_true rfl) dX3_clear_7 (fun H locs hP hD hS => ?_)
  have hP : va_P G.1 vwCl [(p0, .inr (3, [.ref p1, .ref p2, .ref p3, .ref p4, .ref p5, .ref p6, .int 0, .int 0, .int p_quarrel])), (p1, .inl (G.2.1, 6, .inl p_kinds)), (p2, .inl (G.2.1, 6, .inl p_beds)), (p3, .inl (G.2.1, 6, .inl p_foods)), (p4, .inl (G.2.1, 8, .inl p_unkind)), (p5, .inl (G.2.1, 8, .inl p_eats)), (p6, .inr (7, [.ref p7])), (p7, .inl (G.2.2.1, 6, .inr (.inl p_rows)))] H := hP
  have hD : va_D A [(p0, .inr (3, [.ref p1, .ref p2, .ref p3, .ref p4, .ref p5, .ref p6, .int 0, .int 0, .int p_quarrel])), (p1, .inl (G.2.1, 6, .inl p_kinds)), (p2, .inl (G.2.1, 6, .inl p_beds)), (p3, .inl (G.2.1, 6, .inl p_foods)), (p4, .inl (G.2.1, 8, .inl p_unkind)), (p5, .inl (G.2.1, 8, .inl p_eats)), (p6, .inr (7, [.ref p7])), (p7, .inl (G.2.2.1, 6, .inr (.inl p_rows)))] := hD
  refine lv_aload_n hx hb dX3_clear_10 rfl (lv_at hl 0 rfl) ?_
  refine lv_bipush (v := 8) hx hb dX3_clear_11 (by decide) ?_
  refine va_put (D := G.1) (ci := 3) (v := .int 8) (ty := .int) (C := RX3) (T := TX3) (N := 9) hx hb hts hiX3 tyX3 tyX3_ok nmX3 hown hK hP hD hS 0 rfl rfl 8 (by decide) (hts (.fieldLink RX3 41 "LodgingNames$Port" "quarrel" "I") (by decide +kernel)) (fun _ h9 => h9) rfl rfl rfl rfl (Nat.le_of_ble_eq_true rfl) dX3_clear_13 (fun H locs hP hD hS => ?_)
  have hP : va_P G.1 vwCl [(p0, .inr (3, [.ref p1, .ref p2, .ref p3, .ref p4, .ref p5, .ref p6, .int 0, .int 0, .int 8])), (p1, .inl (G.2.1, 6, .inl p_kinds)), (p2, .inl (G.2.1, 6, .inl p_beds)), (p3, .inl (G.2.1, 6, .inl p_foods)), (p4, .inl (G.2.1, 8, .inl p_unkind)), (p5, .inl (G.2.1, 8, .inl p_eats)), (p6, .inr (7, [.ref p7])), (p7, .inl (G.2.2.1, 6, .inr (.inl p_rows)))] H := hP
  have hD : va_D A [(p0, .inr (3, [.ref p1, .ref p2, .ref p3, .ref p4, .ref p5, .ref p6, .int 0, .int 0, .int 8])), (p1, .inl (G.2.1, 6, .inl p_kinds)), (p2, .inl (G.2.1, 6, .inl p_beds)), (p3, .inl (G.2.1, 6, .inl p_foods)), (p4, .inl (G.2.1, 8, .inl p_unkind)), (p5, .inl (G.2.1, 8, .inl p_eats)), (p6, .inr (7, [.ref p7])), (p7, .inl (G.2.2.1, 6, .inr (.inl p_rows)))] := hD
  refine lv_aload_n hx hb dX3_clear_16 rfl (lv_at hl 0 rfl) ?_
  refine va_get (D := G.1) (ci := 3) (v := .ref p6) (C := RX3) (T := TX3) (N := 9) hx hb hts hiX3 hown hK hP 0 rfl rfl 5 (by decide) (hts (.fieldLink RX3 30 "LodgingNames$Port" "words" "LLodgingNames$Words;") (by decide +kernel)) (fun _ h9 => h9) rfl dX3_clear_17 ?_
  refine kc_v (Wr := [(p0, .inr (3, [.ref p1, .ref p2, .ref p3, .ref p4, .ref p5, .ref p6, .int 0, .int 0, .int 8])), (p1, .inl (G.2.1, 6, .inl p_kinds)), (p2, .inl (G.2.1, 6, .inl p_beds)), (p3, .inl (G.2.1, 6, .inl p_foods)), (p4, .inl (G.2.1, 8, .inl p_unkind)), (p5, .inl (G.2.1, 8, .inl p_eats))]) (va_runV (As := []) (rest := []) Fx (MX7_clear l G p6 p7 p_rows h H.size) (cwV 0 hts gX3_clear_X7_clear rfl rfl rfl (by decide +kernel) ⟨Nat.le_of_ble_eq_true rfl, Nat.le_of_ble_eq_true rfl⟩) (kpreV hP hD hK hN [6, 7] rfl rfl 6 rfl rfl) rfl rfl hl.1 rfl (lv_room (Nat.le_of_ble_eq_true rfl)) dX3_clear_20 ⟨Nat.le_of_ble_eq_true rfl, Nat.le_of_ble_eq_true rfl⟩) hP hD hS hA [6, 7] [0, 1, 2, 3, 4, 5] rfl rfl rfl (by decide +kernel) (fun p_rows_1 H locs h hP hD hS => ?_)
  have hP : va_P G.1 vwCl [(p0, .inr (3, [.ref p1, .ref p2, .ref p3, .ref p4, .ref p5, .ref p6, .int 0, .int 0, .int 8])), (p1, .inl (G.2.1, 6, .inl p_kinds)), (p2, .inl (G.2.1, 6, .inl p_beds)), (p3, .inl (G.2.1, 6, .inl p_foods)), (p4, .inl (G.2.1, 8, .inl p_unkind)), (p5, .inl (G.2.1, 8, .inl p_eats)), (p6, .inr (7, [.ref p7])), (p7, .inl (G.2.2.1, 6, .inr (.inl p_rows_1)))] H := hP
  have hD : va_D A [(p0, .inr (3, [.ref p1, .ref p2, .ref p3, .ref p4, .ref p5, .ref p6, .int 0, .int 0, .int 8])), (p1, .inl (G.2.1, 6, .inl p_kinds)), (p2, .inl (G.2.1, 6, .inl p_beds)), (p3, .inl (G.2.1, 6, .inl p_foods)), (p4, .inl (G.2.1, 8, .inl p_unkind)), (p5, .inl (G.2.1, 8, .inl p_eats)), (p6, .inr (7, [.ref p7])), (p7, .inl (G.2.2.1, 6, .inr (.inl p_rows_1)))] := hD
  exact hret _ _ _ _ (0, 0, 8, p_rows_1) dX3_clear_23 h hP hD hS

abbrev rmX3_tellPerson : Room := { frames := 1, cells := 0, slots := 0, locals := 22 }
set_option maxHeartbeats 4000000 in
set_option maxRecDepth 100000 in
theorem MX3_tellPerson (l : Launch) (G : kG) (p0 p1 p2 p3 p4 p5 p6 p7 : Nat) (p_persons : Int32) (p_names : Int32) (p_quarrel : Int32) (p_kinds : Nat → Int32) (p_beds : Nat → Int32) (p_foods : Nat → Int32) (p_unkind : Nat → Int32) (p_eats : Nat → Int32) (p_rows : Nat → Int64) (a1 : Int32) (a2 : Int32) (a3 : Int32) {K : Int32 → Int32 → (Nat → Int32) → (Nat → Int32) → (Nat → Int32) → Prop} (h : wpX3_tellPerson p_persons p_kinds p_beds p_foods a1 a2 a3 K) : kI l G yX3_tellPerson wsX3_tellPerson rmX3_tellPerson [.ref p0, .int a1, .int a2, .int a3] [(p0, .inr (3, [.ref p1, .ref p2, .ref p3, .ref p4, .ref p5, .ref p6, .int p_persons, .int p_names, .int p_quarrel])), (p1, .inl (G.2.1, 6, .inl p_kinds)), (p2, .inl (G.2.1, 6, .inl p_beds)), (p3, .inl (G.2.1, 6, .inl p_foods)), (p4, .inl (G.2.1, 8, .inl p_unkind)), (p5, .inl (G.2.1, 8, .inl p_eats)), (p6, .inr (7, [.ref p7])), (p7, .inl (G.2.2.1, 6, .inr (.inl p_rows)))] (S := (Int32) × (Nat → Int32) × (Nat → Int32) × (Nat → Int32)) (fun u => [(p0, .inr (3, [.ref p1, .ref p2, .ref p3, .ref p4, .ref p5, .ref p6, .int u.1, .int p_names, .int p_quarrel])), (p1, .inl (G.2.1, 6, .inl u.2.1)), (p2, .inl (G.2.1, 6, .inl u.2.2.1)), (p3, .inl (G.2.1, 6, .inl u.2.2.2)), (p4, .inl (G.2.1, 8, .inl p_unkind)), (p5, .inl (G.2.1, 8, .inl p_eats)), (p6, .inr (7, [.ref p7])), (p7, .inl (G.2.2.1, 6, .inr (.inl p_rows)))]) (fun r u => K r u.1 u.2.1 u.2.2.1 u.2.2.2) 0 0 := by
  refine kI_of (cc := cX3_tellPerson) (maxL := 4) (ret := .boolean) (by decide) rfl (Nat.le_of_ble_eq_true rfl) ?_
  intro p e s m below meth c Q A ls Fx hK hN hA hnm hret hP hD hl hS
  obtain ⟨hx, hb, hml, hown, hts⟩ := id Fx
  have hown : s.vm.findClass RX3 = some m.cls := hown
  have hl : lv_has ls 4 [(0, .ref p0), (1, .int a1), (2, .int a2), (3, .int a3)] := hl
  have hiX3 : ∀ w ∈ u_ws RX3 TX3 9, w ∈ wsX3_tellPerson := by decide +kernel
  unfold wpX3_tellPerson at h
  refine lv_aload_n hx hb dX3_tellPerson_0 rfl (lv_at hl 0 rfl) ?_
  refine va_get (D := G.1) (ci := 3) (v := .int p_persons) (C := RX3) (T := TX3) (N := 9) hx hb hts hiX3 hown hK hP 0 rfl rfl 6 (by decide) (hts (.fieldLink RX3 34 "LodgingNames$Port" "persons" "I") (by decide +kernel)) (fun _ h9 => h9) rfl dX3_tellPerson_1 ?_
  refine lv_bipush (v := 6) hx hb dX3_tellPerson_4 (by decide) ?_
  refine lv_icmp_ge (tgt := 37) hx hb dX3_tellPerson_6 (by decide) (fun hc => ?_) (fun hc => ?_)
  · have h := wp_t h hc
    refine lv_iconst (v := 0) hx hb dX3_tellPerson_37 (by decide) ?_
    exact hret _ _ _ _ _ (p_persons, p_kinds, p_beds, p_foods) rfl dX3_tellPerson_38 h hP hD hS
  · have h := wp_f h hc
    refine lv_iload_n hx hb dX3_tellPerson_9 rfl (lv_at hl 1 rfl) ?_
    refine lv_iconst (v := 0) hx hb dX3_tellPerson_10 (by decide) ?_
    refine lv_iconst (v := 4) hx hb dX3_tellPerson_11 (by decide) ?_
    refine kc_i (Wr := [(p0, .inr (3, [.ref p1, .ref p2, .ref p3, .ref p4, .ref p5, .ref p6, .int p_persons, .int p_names, .int p_quarrel])), (p1, .inl (G.2.1, 6, .inl p_kinds)), (p2, .inl (G.2.1, 6, .inl p_beds)), (p3, .inl (G.2.1, 6, .inl p_foods)), (p4, .inl (G.2.1, 8, .inl p_unkind)), (p5, .inl (G.2.1, 8, .inl p_eats)), (p6, .inr (7, [.ref p7])), (p7, .inl (G.2.2.1, 6, .inr (.inl p_rows)))]) (va_runSN (As := [.int a1, .int 0, .int 4]) (rest := []) Fx (MX8_within l G a1 0 4 h s.heap.size) ⟨va_cnB (host := RX8) 3 hts gX3_tellPerson_X8_within_n62 rfl rfl rfl (hN (.methodLinkNest RX3 62 yX8_within RX8) (by decide +kernel)) (hts (.initialized RX8) (by decide +kernel)) (by decide +kernel) ⟨Nat.le_of_ble_eq_true rfl, Nat.le_of_ble_eq_true rfl⟩, hts (.static yX8_within) (by decide +kernel), trivial⟩ (kpreS hP hD hK hN [] rfl rfl) rfl rfl hl.1 rfl (lv_room (Nat.le_of_ble_eq_true rfl)) dX3_tellPerson_12 ⟨Nat.le_of_ble_eq_true rfl, Nat.le_of_ble_eq_true rfl⟩) hP hD hS hA [] [0, 1, 2, 3, 4, 5, 6, 7] rfl rfl rfl (by decide +kernel) (fun r_1 u H locs h hP hD hS => ?_)
    have hP : va_P G.1 vwCl [(p0, .inr (3, [.ref p1, .ref p2, .ref p3, .ref p4, .ref p5, .ref p6, .int p_persons, .int p_names, .int p_quarrel])), (p1, .inl (G.2.1, 6, .inl p_kinds)), (p2, .inl (G.2.1, 6, .inl p_beds)), (p3, .inl (G.2.1, 6, .inl p_foods)), (p4, .inl (G.2.1, 8, .inl p_unkind)), (p5, .inl (G.2.1, 8, .inl p_eats)), (p6, .inr (7, [.ref p7])), (p7, .inl (G.2.2.1, 6, .inr (.inl p_rows)))] H := hP
    have hD : va_D A [(p0, .inr (3, [.ref p1, .ref p2, .ref p3, .ref p4, .ref p5, .ref p6, .int p_persons, .int p_names, .int p_quarrel])), (p1, .inl (G.2.1, 6, .inl p_kinds)), (p2, .inl (G.2.1, 6, .inl p_beds)), (p3, .inl (G.2.1, 6, .inl p_foods)), (p4, .inl (G.2.1, 8, .inl p_unkind)), (p5, .inl (G.2.1, 8, .inl p_eats)), (p6, .inr (7, [.ref p7])), (p7, .inl (G.2.2.1, 6, .inr (.inl p_rows)))] := hD
    refine lv_if_eq (tgt := 37) hx hb dX3_tellPerson_15 (by decide) (fun hc => ?_) (fun hc => ?_)
    · have h := wp_t h hc
      refine lv_iconst (v := 0) hx hb dX3_tellPerson_37 (by decide) ?_
      exact hret _ _ _ _ _ (p_persons, p_kinds, p_beds, p_foods) rfl dX3_tellPerson_38 h hP hD hS
    · have h := wp_f h hc
      refine lv_iload_n hx hb dX3_tellPerson_18 rfl (lv_at hl 2 rfl) ?_
      refine lv_iconst (v := 0) hx hb dX3_tellPerson_19 (by decide) ?_
      refine lv_iconst (v := 5) hx hb dX3_tellPerson_20 (by decide) ?_
      refine kc_i (Wr := [(p0, .inr (3, [.ref p1, .ref p2, .ref p3, .ref p4, .ref p5, .ref p6, .int p_persons, .int p_names, .int p_quarrel])), (p1, .inl (G.2.1, 6, .inl p_kinds)), (p2, .inl (G.2.1, 6, .inl p_beds)), (p3, .inl (G.2.1, 6, .inl p_foods)), (p4, .inl (G.2.1, 8, .inl p_unkind)), (p5, .inl (G.2.1, 8, .inl p_eats)), (p6, .inr (7, [.ref p7])), (p7, .inl (G.2.2.1, 6, .inr (.inl p_rows)))]) (va_runSN (As := [.int a2, .int 0, .int 5]) (rest := []) Fx (MX8_within l G a2 0 5 h H.size) ⟨va_cnB (host := RX8) 3 hts gX3_tellPerson_X8_within_n62 rfl rfl rfl (hN (.methodLinkNest RX3 62 yX8_within RX8) (by decide +kernel)) (hts (.initialized RX8) (by decide +kernel)) (by decide +kernel) ⟨Nat.le_of_ble_eq_true rfl, Nat.le_of_ble_eq_true rfl⟩, hts (.static yX8_within) (by decide +kernel), trivial⟩ (kpreS hP hD hK hN [] rfl rfl) rfl rfl hl.1 rfl (lv_room (Nat.le_of_ble_eq_true rfl)) dX3_tellPerson_21 ⟨Nat.le_of_ble_eq_true rfl, Nat.le_of_ble_eq_true rfl⟩) hP hD hS hA [] [0, 1, 2, 3, 4, 5, 6, 7] rfl rfl rfl (by decide +kernel) (fun r_2 u H locs h hP hD hS => ?_)
      have hP : va_P G.1 vwCl [(p0, .inr (3, [.ref p1, .ref p2, .ref p3, .ref p4, .ref p5, .ref p6, .int p_persons, .int p_names, .int p_quarrel])), (p1, .inl (G.2.1, 6, .inl p_kinds)), (p2, .inl (G.2.1, 6, .inl p_beds)), (p3, .inl (G.2.1, 6, .inl p_foods)), (p4, .inl (G.2.1, 8, .inl p_unkind)), (p5, .inl (G.2.1, 8, .inl p_eats)), (p6, .inr (7, [.ref p7])), (p7, .inl (G.2.2.1, 6, .inr (.inl p_rows)))] H := hP
      have hD : va_D A [(p0, .inr (3, [.ref p1, .ref p2, .ref p3, .ref p4, .ref p5, .ref p6, .int p_persons, .int p_names, .int p_quarrel])), (p1, .inl (G.2.1, 6, .inl p_kinds)), (p2, .inl (G.2.1, 6, .inl p_beds)), (p3, .inl (G.2.1, 6, .inl p_foods)), (p4, .inl (G.2.1, 8, .inl p_unkind)), (p5, .inl (G.2.1, 8, .inl p_eats)), (p6, .inr (7, [.ref p7])), (p7, .inl (G.2.2.1, 6, .inr (.inl p_rows)))] := hD
      refine lv_if_eq (tgt := 37) hx hb dX3_tellPerson_24 (by decide) (fun hc => ?_) (fun hc => ?_)
      · have h := wp_t h hc
        refine lv_iconst (v := 0) hx hb dX3_tellPerson_37 (by decide) ?_
        exact hret _ _ _ _ _ (p_persons, p_kinds, p_beds, p_foods) rfl dX3_tellPerson_38 h hP hD hS
      · have h := wp_f h hc
        refine lv_iload_n hx hb dX3_tellPerson_27 rfl (lv_at hl 3 rfl) ?_
        refine lv_iconst (v := 0) hx hb dX3_tellPerson_28 (by decide) ?_
        refine lv_bipush (v := 30) hx hb dX3_tellPerson_29 (by decide) ?_
        refine kc_i (Wr := [(p0, .inr (3, [.ref p1, .ref p2, .ref p3, .ref p4, .ref p5, .ref p6, .int p_persons, .int p_names, .int p_quarrel])), (p1, .inl (G.2.1, 6, .inl p_kinds)), (p2, .inl (G.2.1, 6, .inl p_beds)), (p3, .inl (G.2.1, 6, .inl p_foods)), (p4, .inl (G.2.1, 8, .inl p_unkind)), (p5, .inl (G.2.1, 8, .inl p_eats)), (p6, .inr (7, [.ref p7])), (p7, .inl (G.2.2.1, 6, .inr (.inl p_rows)))]) (va_runSN (As := [.int a3, .int 0, .int 30]) (rest := []) Fx (MX8_within l G a3 0 30 h H.size) ⟨va_cnB (host := RX8) 3 hts gX3_tellPerson_X8_within_n62 rfl rfl rfl (hN (.methodLinkNest RX3 62 yX8_within RX8) (by decide +kernel)) (hts (.initialized RX8) (by decide +kernel)) (by decide +kernel) ⟨Nat.le_of_ble_eq_true rfl, Nat.le_of_ble_eq_true rfl⟩, hts (.static yX8_within) (by decide +kernel), trivial⟩ (kpreS hP hD hK hN [] rfl rfl) rfl rfl hl.1 rfl (lv_room (Nat.le_of_ble_eq_true rfl)) dX3_tellPerson_31 ⟨Nat.le_of_ble_eq_true rfl, Nat.le_of_ble_eq_true rfl⟩) hP hD hS hA [] [0, 1, 2, 3, 4, 5, 6, 7] rfl rfl rfl (by decide +kernel) (fun r_3 u H locs h hP hD hS => ?_)
        have hP : va_P G.1 vwCl [(p0, .inr (3, [.ref p1, .ref p2, .ref p3, .ref p4, .ref p5, .ref p6, .int p_persons, .int p_names, .int p_quarrel])), (p1, .inl (G.2.1, 6, .inl p_kinds)), (p2, .inl (G.2.1, 6, .inl p_beds)), (p3, .inl (G.2.1, 6, .inl p_foods)), (p4, .inl (G.2.1, 8, .inl p_unkind)), (p5, .inl (G.2.1, 8, .inl p_eats)), (p6, .inr (7, [.ref p7])), (p7, .inl (G.2.2.1, 6, .inr (.inl p_rows)))] H := hP
        have hD : va_D A [(p0, .inr (3, [.ref p1, .ref p2, .ref p3, .ref p4, .ref p5, .ref p6, .int p_persons, .int p_names, .int p_quarrel])), (p1, .inl (G.2.1, 6, .inl p_kinds)), (p2, .inl (G.2.1, 6, .inl p_beds)), (p3, .inl (G.2.1, 6, .inl p_foods)), (p4, .inl (G.2.1, 8, .inl p_unkind)), (p5, .inl (G.2.1, 8, .inl p_eats)), (p6, .inr (7, [.ref p7])), (p7, .inl (G.2.2.1, 6, .inr (.inl p_rows)))] := hD
        refine lv_if_ne (tgt := 39) hx hb dX3_tellPerson_34 (by decide) (fun hc => ?_) (fun hc => ?_)
        · have h := wp_f h hc
          refine lv_aload_n hx hb dX3_tellPerson_39 rfl (lv_at hl 0 rfl) ?_
          refine va_get (D := G.1) (ci := 3) (v := .ref p1) (C := RX3) (T := TX3) (N := 9) hx hb hts hiX3 hown hK hP 0 rfl rfl 0 (by decide) (hts (.fieldLink RX3 9 "LodgingNames$Port" "kinds" "[I") (by decide +kernel)) (fun _ h9 => h9) rfl dX3_tellPerson_40 ?_
          refine lv_aload_n hx hb dX3_tellPerson_43 rfl (lv_at hl 0 rfl) ?_
          refine va_get (D := G.1) (ci := 3) (v := .int p_persons) (C := RX3) (T := TX3) (N := 9) hx hb hts hiX3 hown hK hP 0 rfl rfl 6 (by decide) (hts (.fieldLink RX3 34 "LodgingNames$Port" "persons" "I") (by decide +kernel)) (fun _ h9 => h9) rfl dX3_tellPerson_44 ?_
          refine lv_iload_n hx hb dX3_tellPerson_47 rfl (lv_at hl 1 rfl) ?_
          refine kc_v (Wr := [(p0, .inr (3, [.ref p1, .ref p2, .ref p3, .ref p4, .ref p5, .ref p6, .int p_persons, .int p_names, .int p_quarrel])), (p2, .inl (G.2.1, 6, .inl p_beds)), (p3, .inl (G.2.1, 6, .inl p_foods)), (p4, .inl (G.2.1, 8, .inl p_unkind)), (p5, .inl (G.2.1, 8, .inl p_eats)), (p6, .inr (7, [.ref p7])), (p7, .inl (G.2.2.1, 6, .inr (.inl p_rows)))]) (va_runSN (As := [.ref p1, .int p_persons, .int a1]) (rest := []) Fx (MX8_put l G p1 6 p_kinds p_persons a1 h H.size) ⟨va_cnB (host := RX8) 3 hts gX3_tellPerson_X8_put_n65 rfl rfl rfl (hN (.methodLinkNest RX3 65 yX8_put RX8) (by decide +kernel)) (hts (.initialized RX8) (by decide +kernel)) (by decide +kernel) ⟨Nat.le_of_ble_eq_true rfl, Nat.le_of_ble_eq_true rfl⟩, hts (.static yX8_put) (by decide +kernel), trivial⟩ (kpreS hP hD hK hN [1] rfl rfl) rfl rfl hl.1 rfl (lv_room (Nat.le_of_ble_eq_true rfl)) dX3_tellPerson_48 ⟨Nat.le_of_ble_eq_true rfl, Nat.le_of_ble_eq_true rfl⟩) hP hD hS hA [1] [0, 2, 3, 4, 5, 6, 7] rfl rfl rfl (by decide +kernel) (fun p_kinds_4 H locs h hP hD hS => ?_)
          have hP : va_P G.1 vwCl [(p0, .inr (3, [.ref p1, .ref p2, .ref p3, .ref p4, .ref p5, .ref p6, .int p_persons, .int p_names, .int p_quarrel])), (p2, .inl (G.2.1, 6, .inl p_beds)), (p3, .inl (G.2.1, 6, .inl p_foods)), (p4, .inl (G.2.1, 8, .inl p_unkind)), (p5, .inl (G.2.1, 8, .inl p_eats)), (p6, .inr (7, [.ref p7])), (p7, .inl (G.2.2.1, 6, .inr (.inl p_rows))), (p1, .inl (G.2.1, 6, .inl p_kinds_4))] H := hP
          have hD : va_D A [(p0, .inr (3, [.ref p1, .ref p2, .ref p3, .ref p4, .ref p5, .ref p6, .int p_persons, .int p_names, .int p_quarrel])), (p2, .inl (G.2.1, 6, .inl p_beds)), (p3, .inl (G.2.1, 6, .inl p_foods)), (p4, .inl (G.2.1, 8, .inl p_unkind)), (p5, .inl (G.2.1, 8, .inl p_eats)), (p6, .inr (7, [.ref p7])), (p7, .inl (G.2.2.1, 6, .inr (.inl p_rows))), (p1, .inl (G.2.1, 6, .inl p_kinds_4))] := hD
          refine lv_aload_n hx hb dX3_tellPerson_51 rfl (lv_at hl 0 rfl) ?_
          refine va_get (D := G.1) (ci := 3) (v := .ref p2) (C := RX3) (T := TX3) (N := 9) hx hb hts hiX3 hown hK hP 0 rfl rfl 1 (by decide) (hts (.fieldLink RX3 15 "LodgingNames$Port" "beds" "[I") (by decide +kernel)) (fun _ h9 => h9) rfl dX3_tellPerson_52 ?_
          refine lv_aload_n hx hb dX3_tellPerson_55 rfl (lv_at hl 0 rfl) ?_
          refine va_get (D := G.1) (ci := 3) (v := .int p_persons) (C := RX3) (T := TX3) (N := 9) hx hb hts hiX3 hown hK hP 0 rfl rfl 6 (by decide) (hts (.fieldLink RX3 34 "LodgingNames$Port" "persons" "I") (by decide +kernel)) (fun _ h9 => h9) rfl dX3_tellPerson_56 ?_
          refine lv_iload_n hx hb dX3_tellPerson_59 rfl (lv_at hl 1 rfl) ?_
          refine lv_iconst (v := 1) hx hb dX3_tellPerson_60 (by decide) ?_
          have h := h (fun (v_5 : Int32) => ∀ (H : Heap) (locs : List Loc) (ls : Array Slot), va_P G.1 vwCl [(p0, .inr (3, [.ref p1, .ref p2, .ref p3, .ref p4, .ref p5, .ref p6, .int p_persons, .int p_names, .int p_quarrel])), (p1, .inl (G.2.1, 6, .inl p_kinds_4)), (p2, .inl (G.2.1, 6, .inl p_beds)), (p3, .inl (G.2.1, 6, .inl p_foods)), (p4, .inl (G.2.1, 8, .inl p_unkind)), (p5, .inl (G.2.1, 8, .inl p_eats)), (p6, .inr (7, [.ref p7])), (p7, .inl (G.2.2.1, 6, .inr (.inl p_rows)))] H → va_D A [(p0, .inr (3, [.ref p1, .ref p2, .ref p3, .ref p4, .ref p5, .ref p6, .int p_persons, .int p_names, .int p_quarrel])), (p1, .inl (G.2.1, 6, .inl p_kinds_4)), (p2, .inl (G.2.1, 6, .inl p_beds)), (p3, .inl (G.2.1, 6, .inl p_foods)), (p4, .inl (G.2.1, 8, .inl p_unkind)), (p5, .inl (G.2.1, 8, .inl p_eats)), (p6, .inr (7, [.ref p7])), (p7, .inl (G.2.2.1, 6, .inr (.inl p_rows)))] → va_S A s.heap H locs → lv_has ls 4 [(0, .ref p0), (3, .int a3)] → W p l e rmX3_tellPerson s m [.ref p0, .int a1, .int a2, .int a3].toArray below meth c H locs 0 0 Q (F0 m 71 ls [.int v_5, .int p_persons, .ref p2]))
          have h := h (fun v_5 h H locs ls hP hD hS hl => by
            refine kc_v (Wr := [(p0, .inr (3, [.ref p1, .ref p2, .ref p3, .ref p4, .ref p5, .ref p6, .int p_persons, .int p_names, .int p_quarrel])), (p1, .inl (G.2.1, 6, .inl p_kinds_4)), (p3, .inl (G.2.1, 6, .inl p_foods)), (p4, .inl (G.2.1, 8, .inl p_unkind)), (p5, .inl (G.2.1, 8, .inl p_eats)), (p6, .inr (7, [.ref p7])), (p7, .inl (G.2.2.1, 6, .inr (.inl p_rows)))]) (va_runSN (As := [.ref p2, .int p_persons, .int v_5]) (rest := []) Fx (MX8_put l G p2 6 p_beds p_persons v_5 h H.size) ⟨va_cnB (host := RX8) 3 hts gX3_tellPerson_X8_put_n65 rfl rfl rfl (hN (.methodLinkNest RX3 65 yX8_put RX8) (by decide +kernel)) (hts (.initialized RX8) (by decide +kernel)) (by decide +kernel) ⟨Nat.le_of_ble_eq_true rfl, Nat.le_of_ble_eq_true rfl⟩, hts (.static yX8_put) (by decide +kernel), trivial⟩ (kpreS hP hD hK hN [2] rfl rfl) rfl rfl hl.1 rfl (lv_room (Nat.le_of_ble_eq_true rfl)) dX3_tellPerson_71 ⟨Nat.le_of_ble_eq_true rfl, Nat.le_of_ble_eq_true rfl⟩) hP hD hS hA [2] [0, 1, 3, 4, 5, 6, 7] rfl rfl rfl (by decide +kernel) (fun p_beds_6 H locs h hP hD hS => ?_)
            have hP : va_P G.1 vwCl [(p0, .inr (3, [.ref p1, .ref p2, .ref p3, .ref p4, .ref p5, .ref p6, .int p_persons, .int p_names, .int p_quarrel])), (p1, .inl (G.2.1, 6, .inl p_kinds_4)), (p3, .inl (G.2.1, 6, .inl p_foods)), (p4, .inl (G.2.1, 8, .inl p_unkind)), (p5, .inl (G.2.1, 8, .inl p_eats)), (p6, .inr (7, [.ref p7])), (p7, .inl (G.2.2.1, 6, .inr (.inl p_rows))), (p2, .inl (G.2.1, 6, .inl p_beds_6))] H := hP
            have hD : va_D A [(p0, .inr (3, [.ref p1, .ref p2, .ref p3, .ref p4, .ref p5, .ref p6, .int p_persons, .int p_names, .int p_quarrel])), (p1, .inl (G.2.1, 6, .inl p_kinds_4)), (p3, .inl (G.2.1, 6, .inl p_foods)), (p4, .inl (G.2.1, 8, .inl p_unkind)), (p5, .inl (G.2.1, 8, .inl p_eats)), (p6, .inr (7, [.ref p7])), (p7, .inl (G.2.2.1, 6, .inr (.inl p_rows))), (p2, .inl (G.2.1, 6, .inl p_beds_6))] := hD
            refine lv_aload_n hx hb dX3_tellPerson_74 rfl (lv_at hl 0 rfl) ?_
            refine va_get (D := G.1) (ci := 3) (v := .ref p3) (C := RX3) (T := TX3) (N := 9) hx hb hts hiX3 hown hK hP 0 rfl rfl 2 (by decide) (hts (.fieldLink RX3 18 "LodgingNames$Port" "foods" "[I") (by decide +kernel)) (fun _ h9 => h9) rfl dX3_tellPerson_75 ?_
            refine lv_aload_n hx hb dX3_tellPerson_78 rfl (lv_at hl 0 rfl) ?_
            refine va_get (D := G.1) (ci := 3) (v := .int p_persons) (C := RX3) (T := TX3) (N := 9) hx hb hts hiX3 hown hK hP 0 rfl rfl 6 (by decide) (hts (.fieldLink RX3 34 "LodgingNames$Port" "persons" "I") (by decide +kernel)) (fun _ h9 => h9) rfl dX3_tellPerson_79 ?_
            refine lv_iload_n hx hb dX3_tellPerson_82 rfl (lv_at hl 1 rfl) ?_
            refine kc_v (Wr := [(p0, .inr (3, [.ref p1, .ref p2, .ref p3, .ref p4, .ref p5, .ref p6, .int p_persons, .int p_names, .int p_quarrel])), (p1, .inl (G.2.1, 6, .inl p_kinds_4)), (p4, .inl (G.2.1, 8, .inl p_unkind)), (p5, .inl (G.2.1, 8, .inl p_eats)), (p6, .inr (7, [.ref p7])), (p7, .inl (G.2.2.1, 6, .inr (.inl p_rows))), (p2, .inl (G.2.1, 6, .inl p_beds_6))]) (va_runSN (As := [.ref p3, .int p_persons, .int a3]) (rest := []) Fx (MX8_put l G p3 6 p_foods p_persons a3 h H.size) ⟨va_cnB (host := RX8) 3 hts gX3_tellPerson_X8_put_n65 rfl rfl rfl (hN (.methodLinkNest RX3 65 yX8_put RX8) (by decide +kernel)) (hts (.initialized RX8) (by decide +kernel)) (by decide +kernel) ⟨Nat.le_of_ble_eq_true rfl, Nat.le_of_ble_eq_true rfl⟩, hts (.static yX8_put) (by decide +kernel), trivial⟩ (kpreS hP hD hK hN [2] rfl rfl) rfl rfl hl.1 rfl (lv_room (Nat.le_of_ble_eq_true rfl)) dX3_tellPerson_83 ⟨Nat.le_of_ble_eq_true rfl, Nat.le_of_ble_eq_true rfl⟩) hP hD hS hA [2] [0, 1, 3, 4, 5, 6, 7] rfl rfl rfl (by decide +kernel) (fun p_foods_7 H locs h hP hD hS => ?_)
            have hP : va_P G.1 vwCl [(p0, .inr (3, [.ref p1, .ref p2, .ref p3, .ref p4, .ref p5, .ref p6, .int p_persons, .int p_names, .int p_quarrel])), (p1, .inl (G.2.1, 6, .inl p_kinds_4)), (p4, .inl (G.2.1, 8, .inl p_unkind)), (p5, .inl (G.2.1, 8, .inl p_eats)), (p6, .inr (7, [.ref p7])), (p7, .inl (G.2.2.1, 6, .inr (.inl p_rows))), (p2, .inl (G.2.1, 6, .inl p_beds_6)), (p3, .inl (G.2.1, 6, .inl p_foods_7))] H := hP
            have hD : va_D A [(p0, .inr (3, [.ref p1, .ref p2, .ref p3, .ref p4, .ref p5, .ref p6, .int p_persons, .int p_names, .int p_quarrel])), (p1, .inl (G.2.1, 6, .inl p_kinds_4)), (p4, .inl (G.2.1, 8, .inl p_unkind)), (p5, .inl (G.2.1, 8, .inl p_eats)), (p6, .inr (7, [.ref p7])), (p7, .inl (G.2.2.1, 6, .inr (.inl p_rows))), (p2, .inl (G.2.1, 6, .inl p_beds_6)), (p3, .inl (G.2.1, 6, .inl p_foods_7))] := hD
            refine lv_aload_n hx hb dX3_tellPerson_86 rfl (lv_at hl 0 rfl) ?_
            refine lv_dup hx hb dX3_tellPerson_87 rfl ?_
            refine va_get (D := G.1) (ci := 3) (v := .int p_persons) (C := RX3) (T := TX3) (N := 9) hx hb hts hiX3 hown hK hP 0 rfl rfl 6 (by decide) (hts (.fieldLink RX3 34 "LodgingNames$Port" "persons" "I") (by decide +kernel)) (fun _ h9 => h9) rfl dX3_tellPerson_88 ?_
            refine lv_iconst (v := 1) hx hb dX3_tellPerson_91 (by decide) ?_
            refine lv_iadd hx hb dX3_tellPerson_92 ?_
            refine va_put (D := G.1) (ci := 3) (v := .int (p_persons + 1)) (ty := .int) (C := RX3) (T := TX3) (N := 9) hx hb hts hiX3 tyX3 tyX3_ok nmX3 hown hK hP hD hS 0 rfl rfl 6 (by decide) (hts (.fieldLink RX3 34 "LodgingNames$Port" "persons" "I") (by decide +kernel)) (fun _ h9 => h9) rfl rfl rfl rfl (Nat.le_of_ble_eq_true rfl) dX3_tellPerson_93 (fun H locs hP hD hS => ?_)
            have hP : va_P G.1 vwCl [(p0, .inr (3, [.ref p1, .ref p2, .ref p3, .ref p4, .ref p5, .ref p6, .int (p_persons + 1), .int p_names, .int p_quarrel])), (p1, .inl (G.2.1, 6, .inl p_kinds_4)), (p4, .inl (G.2.1, 8, .inl p_unkind)), (p5, .inl (G.2.1, 8, .inl p_eats)), (p6, .inr (7, [.ref p7])), (p7, .inl (G.2.2.1, 6, .inr (.inl p_rows))), (p2, .inl (G.2.1, 6, .inl p_beds_6)), (p3, .inl (G.2.1, 6, .inl p_foods_7))] H := hP
            have hD : va_D A [(p0, .inr (3, [.ref p1, .ref p2, .ref p3, .ref p4, .ref p5, .ref p6, .int (p_persons + 1), .int p_names, .int p_quarrel])), (p1, .inl (G.2.1, 6, .inl p_kinds_4)), (p4, .inl (G.2.1, 8, .inl p_unkind)), (p5, .inl (G.2.1, 8, .inl p_eats)), (p6, .inr (7, [.ref p7])), (p7, .inl (G.2.2.1, 6, .inr (.inl p_rows))), (p2, .inl (G.2.1, 6, .inl p_beds_6)), (p3, .inl (G.2.1, 6, .inl p_foods_7))] := hD
            refine lv_iconst (v := 1) hx hb dX3_tellPerson_96 (by decide) ?_
            have hP : va_P G.1 vwCl [(p0, .inr (3, [.ref p1, .ref p2, .ref p3, .ref p4, .ref p5, .ref p6, .int (p_persons + 1), .int p_names, .int p_quarrel])), (p1, .inl (G.2.1, 6, .inl p_kinds_4)), (p2, .inl (G.2.1, 6, .inl p_beds_6)), (p3, .inl (G.2.1, 6, .inl p_foods_7)), (p4, .inl (G.2.1, 8, .inl p_unkind)), (p5, .inl (G.2.1, 8, .inl p_eats)), (p6, .inr (7, [.ref p7])), (p7, .inl (G.2.2.1, 6, .inr (.inl p_rows)))] H := hP.sub [0, 1, 6, 7, 2, 3, 4, 5] rfl
            have hD : va_D A [(p0, .inr (3, [.ref p1, .ref p2, .ref p3, .ref p4, .ref p5, .ref p6, .int (p_persons + 1), .int p_names, .int p_quarrel])), (p1, .inl (G.2.1, 6, .inl p_kinds_4)), (p2, .inl (G.2.1, 6, .inl p_beds_6)), (p3, .inl (G.2.1, 6, .inl p_foods_7)), (p4, .inl (G.2.1, 8, .inl p_unkind)), (p5, .inl (G.2.1, 8, .inl p_eats)), (p6, .inr (7, [.ref p7])), (p7, .inl (G.2.2.1, 6, .inr (.inl p_rows)))] := hD.sub [0, 1, 6, 7, 2, 3, 4, 5] (by decide) rfl
            exact hret _ _ _ _ _ ((p_persons + 1), p_kinds_4, p_beds_6, p_foods_7) rfl dX3_tellPerson_97 h hP hD hS)
          refine lv_icmp_ne (tgt := 70) hx hb dX3_tellPerson_61 (by decide) (fun hc => ?_) (fun hc => ?_)
          · have h := wp_f h hc
            refine lv_iload_n hx hb dX3_tellPerson_70 rfl (lv_at hl 2 rfl) ?_
            have hP : va_P G.1 vwCl [(p0, .inr (3, [.ref p1, .ref p2, .ref p3, .ref p4, .ref p5, .ref p6, .int p_persons, .int p_names, .int p_quarrel])), (p1, .inl (G.2.1, 6, .inl p_kinds_4)), (p2, .inl (G.2.1, 6, .inl p_beds)), (p3, .inl (G.2.1, 6, .inl p_foods)), (p4, .inl (G.2.1, 8, .inl p_unkind)), (p5, .inl (G.2.1, 8, .inl p_eats)), (p6, .inr (7, [.ref p7])), (p7, .inl (G.2.2.1, 6, .inr (.inl p_rows)))] H := hP.sub [0, 7, 1, 2, 3, 4, 5, 6] rfl
            have hD : va_D A [(p0, .inr (3, [.ref p1, .ref p2, .ref p3, .ref p4, .ref p5, .ref p6, .int p_persons, .int p_names, .int p_quarrel])), (p1, .inl (G.2.1, 6, .inl p_kinds_4)), (p2, .inl (G.2.1, 6, .inl p_beds)), (p3, .inl (G.2.1, 6, .inl p_foods)), (p4, .inl (G.2.1, 8, .inl p_unkind)), (p5, .inl (G.2.1, 8, .inl p_eats)), (p6, .inr (7, [.ref p7])), (p7, .inl (G.2.2.1, 6, .inr (.inl p_rows)))] := hD.sub [0, 7, 1, 2, 3, 4, 5, 6] (by decide) rfl
            exact h _ _ _ hP hD hS (lv_sub hl [0, 3] rfl)
          · have h := wp_t h hc
            refine lv_iconst (v := 2) hx hb dX3_tellPerson_64 (by decide) ?_
            refine lv_iload_n hx hb dX3_tellPerson_65 rfl (lv_at hl 2 rfl) ?_
            refine lv_imul hx hb dX3_tellPerson_66 ?_
            refine lv_goto (tgt := 71) hx hb dX3_tellPerson_67 (by decide) ?_
            have hP : va_P G.1 vwCl [(p0, .inr (3, [.ref p1, .ref p2, .ref p3, .ref p4, .ref p5, .ref p6, .int p_persons, .int p_names, .int p_quarrel])), (p1, .inl (G.2.1, 6, .inl p_kinds_4)), (p2, .inl (G.2.1, 6, .inl p_beds)), (p3, .inl (G.2.1, 6, .inl p_foods)), (p4, .inl (G.2.1, 8, .inl p_unkind)), (p5, .inl (G.2.1, 8, .inl p_eats)), (p6, .inr (7, [.ref p7])), (p7, .inl (G.2.2.1, 6, .inr (.inl p_rows)))] H := hP.sub [0, 7, 1, 2, 3, 4, 5, 6] rfl
            have hD : va_D A [(p0, .inr (3, [.ref p1, .ref p2, .ref p3, .ref p4, .ref p5, .ref p6, .int p_persons, .int p_names, .int p_quarrel])), (p1, .inl (G.2.1, 6, .inl p_kinds_4)), (p2, .inl (G.2.1, 6, .inl p_beds)), (p3, .inl (G.2.1, 6, .inl p_foods)), (p4, .inl (G.2.1, 8, .inl p_unkind)), (p5, .inl (G.2.1, 8, .inl p_eats)), (p6, .inr (7, [.ref p7])), (p7, .inl (G.2.2.1, 6, .inr (.inl p_rows)))] := hD.sub [0, 7, 1, 2, 3, 4, 5, 6] (by decide) rfl
            exact h _ _ _ hP hD hS (lv_sub hl [0, 3] rfl)
        · have h := wp_t h hc
          refine lv_iconst (v := 0) hx hb dX3_tellPerson_37 (by decide) ?_
          exact hret _ _ _ _ _ (p_persons, p_kinds, p_beds, p_foods) rfl dX3_tellPerson_38 h hP hD hS

