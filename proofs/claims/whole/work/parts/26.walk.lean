abbrev rmX9_keep : Room := { frames := 0, cells := 0, slots := 0, locals := 0 }
set_option maxHeartbeats 4000000 in
set_option maxRecDepth 100000 in
theorem MX9_keep (l : Launch) (G : kG) (x0 x1 x2 x3 x4 x5 x6 x7 x8 x9 x10 x11 x12 : Nat) (x_typed : Int32) (x_words : Int32) (x_known : Int32) (x_kept : Int32) (x_sights : Int32) (x_at : Int32) (x_without : Int32) (x_text : Nat → Int32) (x_told : Nat → Int32) (x_draft : Nat → Int32) (x_begun : Nat → Int32) (x_s : Nat → Int32) (x_past : Nat → Int32) (x_images : Nat → Int32) (x_seen : Nat → Int32) (x_seenDays : Nat → Int32) (x_held : Nat → Int32) (x_worth : Nat → Int32) (x_spoken : Nat → Int32) {K : Int32 → Int32 → (Nat → Int32) → Prop} (h : wpX9_keep x_kept x_s x_images K) : kI l G yX9_keep wsX9_keep rmX9_keep [.ref x0] [(x0, .inr (9, [.ref x1, .int x_typed, .ref x2, .ref x3, .ref x4, .int x_words, .ref x5, .ref x6, .int x_known, .ref x7, .int x_kept, .ref x8, .ref x9, .int x_sights, .int x_at, .int x_without, .ref x10, .ref x11, .ref x12])), (x1, .inl (G.2.1, 200, .inl x_text)), (x2, .inl (G.2.1, 37, .inl x_told)), (x3, .inl (G.2.1, 37, .inl x_draft)), (x4, .inl (G.2.1, 36, .inl x_begun)), (x5, .inl (G.2.1, 86, .inl x_s)), (x6, .inl (G.2.1, 688, .inl x_past)), (x7, .inl (G.2.1, 172, .inl x_images)), (x8, .inl (G.2.1, 6, .inl x_seen)), (x9, .inl (G.2.1, 6, .inl x_seenDays)), (x10, .inl (G.2.1, 86, .inl x_held)), (x11, .inl (G.2.1, 81, .inl x_worth)), (x12, .inl (G.2.1, 48, .inl x_spoken))] (S := (Int32) × (Nat → Int32)) (fun u => [(x0, .inr (9, [.ref x1, .int x_typed, .ref x2, .ref x3, .ref x4, .int x_words, .ref x5, .ref x6, .int x_known, .ref x7, .int u.1, .ref x8, .ref x9, .int x_sights, .int x_at, .int x_without, .ref x10, .ref x11, .ref x12])), (x1, .inl (G.2.1, 200, .inl x_text)), (x2, .inl (G.2.1, 37, .inl x_told)), (x3, .inl (G.2.1, 37, .inl x_draft)), (x4, .inl (G.2.1, 36, .inl x_begun)), (x5, .inl (G.2.1, 86, .inl x_s)), (x6, .inl (G.2.1, 688, .inl x_past)), (x7, .inl (G.2.1, 172, .inl u.2)), (x8, .inl (G.2.1, 6, .inl x_seen)), (x9, .inl (G.2.1, 6, .inl x_seenDays)), (x10, .inl (G.2.1, 86, .inl x_held)), (x11, .inl (G.2.1, 81, .inl x_worth)), (x12, .inl (G.2.1, 48, .inl x_spoken))]) (fun r u => K r u.1 u.2) 0 0 := by
  refine kI_of (cc := cX9_keep) (maxL := 2) (ret := .int) (by decide) rfl (Nat.le_of_ble_eq_true rfl) ?_
  intro p e s m below meth c Q A ls Fx hK hN hA hnm hret hP hD hl hS
  obtain ⟨hx, hb, hml, hown, hts⟩ := id Fx
  have hown : s.vm.findClass RX9 = some m.cls := hown
  have hl : lv_has ls 2 [(0, .ref x0)] := hl
  have hiX9 : ∀ w ∈ u_ws RX9 TX9 19, w ∈ wsX9_keep := by decide +kernel
  unfold wpX9_keep at h
  refine lv_aload_n hx hb dX9_keep_0 rfl (lv_at hl 0 rfl) ?_
  refine va_get (D := G.1) (ci := 9) (v := .int x_kept) (C := RX9) (T := TX9) (N := 19) hx hb hts hiX9 hown hK hP 0 rfl rfl 10 (by decide) (hts (.fieldLink RX9 102 "LodgingNamesModel" "kept" "I") (by decide +kernel)) (fun _ h9 => h9) rfl dX9_keep_1 ?_
  refine lv_iconst (v := 2) hx hb dX9_keep_4 (by decide) ?_
  refine lv_icmp_ne (tgt := 11) hx hb dX9_keep_5 (by decide) (fun hc => ?_) (fun hc => ?_)
  · have h := wp_f h hc
    refine lv_iconst (v := 0) hx hb dX9_keep_11 (by decide) ?_
    refine lv_istore_n (lv' := [(1, .int 0), (0, .ref x0)]) hx hb dX9_keep_12 rfl hl (by decide) rfl (fun ls hl => ?_)
    have h := h (fun (v_1 : Int32) (x_images_2 : Nat → Int32) => ∀ (H : Heap) (locs : List Loc) (ls : Array Slot), va_P G.1 vwCl [(x0, .inr (9, [.ref x1, .int x_typed, .ref x2, .ref x3, .ref x4, .int x_words, .ref x5, .ref x6, .int x_known, .ref x7, .int x_kept, .ref x8, .ref x9, .int x_sights, .int x_at, .int x_without, .ref x10, .ref x11, .ref x12])), (x1, .inl (G.2.1, 200, .inl x_text)), (x2, .inl (G.2.1, 37, .inl x_told)), (x3, .inl (G.2.1, 37, .inl x_draft)), (x4, .inl (G.2.1, 36, .inl x_begun)), (x5, .inl (G.2.1, 86, .inl x_s)), (x6, .inl (G.2.1, 688, .inl x_past)), (x7, .inl (G.2.1, 172, .inl x_images_2)), (x8, .inl (G.2.1, 6, .inl x_seen)), (x9, .inl (G.2.1, 6, .inl x_seenDays)), (x10, .inl (G.2.1, 86, .inl x_held)), (x11, .inl (G.2.1, 81, .inl x_worth)), (x12, .inl (G.2.1, 48, .inl x_spoken))] H → va_D A [(x0, .inr (9, [.ref x1, .int x_typed, .ref x2, .ref x3, .ref x4, .int x_words, .ref x5, .ref x6, .int x_known, .ref x7, .int x_kept, .ref x8, .ref x9, .int x_sights, .int x_at, .int x_without, .ref x10, .ref x11, .ref x12])), (x1, .inl (G.2.1, 200, .inl x_text)), (x2, .inl (G.2.1, 37, .inl x_told)), (x3, .inl (G.2.1, 37, .inl x_draft)), (x4, .inl (G.2.1, 36, .inl x_begun)), (x5, .inl (G.2.1, 86, .inl x_s)), (x6, .inl (G.2.1, 688, .inl x_past)), (x7, .inl (G.2.1, 172, .inl x_images_2)), (x8, .inl (G.2.1, 6, .inl x_seen)), (x9, .inl (G.2.1, 6, .inl x_seenDays)), (x10, .inl (G.2.1, 86, .inl x_held)), (x11, .inl (G.2.1, 81, .inl x_worth)), (x12, .inl (G.2.1, 48, .inl x_spoken))] → va_S A s.heap H locs → lv_has ls 2 [(0, .ref x0), (1, .int v_1)] → W p l e rmX9_keep s m [.ref x0].toArray below meth c H locs 0 0 Q (F0 m 13 ls []))
    have h := h (fun v_1 x_images_2 h H locs ls hP hD hS hl => by
      refine lv_iload_n hx hb dX9_keep_13 rfl (lv_at hl 1 rfl) ?_
      refine lv_bipush (v := 86) hx hb dX9_keep_14 (by decide) ?_
      refine lv_icmp_ge (tgt := 45) hx hb dX9_keep_16 (by decide) (fun hc => ?_) (fun hc => ?_)
      · have h := wp_t h hc
        refine lv_aload_n hx hb dX9_keep_45 rfl (lv_at hl 0 rfl) ?_
        refine lv_dup hx hb dX9_keep_46 rfl ?_
        refine va_get (D := G.1) (ci := 9) (v := .int x_kept) (C := RX9) (T := TX9) (N := 19) hx hb hts hiX9 hown hK hP 0 rfl rfl 10 (by decide) (hts (.fieldLink RX9 102 "LodgingNamesModel" "kept" "I") (by decide +kernel)) (fun _ h9 => h9) rfl dX9_keep_47 ?_
        refine lv_iconst (v := 1) hx hb dX9_keep_50 (by decide) ?_
        refine lv_iadd hx hb dX9_keep_51 ?_
        refine va_put (D := G.1) (ci := 9) (v := .int (x_kept + 1)) (ty := .int) (C := RX9) (T := TX9) (N := 19) hx hb hts hiX9 tyX9 tyX9_ok nmX9 hown hK hP hD hS 0 rfl rfl 10 (by decide) (hts (.fieldLink RX9 102 "LodgingNamesModel" "kept" "I") (by decide +kernel)) (fun _ h9 => h9) rfl rfl rfl rfl (Nat.le_of_ble_eq_true rfl) dX9_keep_52 (fun H locs hP hD hS => ?_)
        have hP : va_P G.1 vwCl [(x0, .inr (9, [.ref x1, .int x_typed, .ref x2, .ref x3, .ref x4, .int x_words, .ref x5, .ref x6, .int x_known, .ref x7, .int (x_kept + 1), .ref x8, .ref x9, .int x_sights, .int x_at, .int x_without, .ref x10, .ref x11, .ref x12])), (x1, .inl (G.2.1, 200, .inl x_text)), (x2, .inl (G.2.1, 37, .inl x_told)), (x3, .inl (G.2.1, 37, .inl x_draft)), (x4, .inl (G.2.1, 36, .inl x_begun)), (x5, .inl (G.2.1, 86, .inl x_s)), (x6, .inl (G.2.1, 688, .inl x_past)), (x7, .inl (G.2.1, 172, .inl x_images_2)), (x8, .inl (G.2.1, 6, .inl x_seen)), (x9, .inl (G.2.1, 6, .inl x_seenDays)), (x10, .inl (G.2.1, 86, .inl x_held)), (x11, .inl (G.2.1, 81, .inl x_worth)), (x12, .inl (G.2.1, 48, .inl x_spoken))] H := hP
        have hD : va_D A [(x0, .inr (9, [.ref x1, .int x_typed, .ref x2, .ref x3, .ref x4, .int x_words, .ref x5, .ref x6, .int x_known, .ref x7, .int (x_kept + 1), .ref x8, .ref x9, .int x_sights, .int x_at, .int x_without, .ref x10, .ref x11, .ref x12])), (x1, .inl (G.2.1, 200, .inl x_text)), (x2, .inl (G.2.1, 37, .inl x_told)), (x3, .inl (G.2.1, 37, .inl x_draft)), (x4, .inl (G.2.1, 36, .inl x_begun)), (x5, .inl (G.2.1, 86, .inl x_s)), (x6, .inl (G.2.1, 688, .inl x_past)), (x7, .inl (G.2.1, 172, .inl x_images_2)), (x8, .inl (G.2.1, 6, .inl x_seen)), (x9, .inl (G.2.1, 6, .inl x_seenDays)), (x10, .inl (G.2.1, 86, .inl x_held)), (x11, .inl (G.2.1, 81, .inl x_worth)), (x12, .inl (G.2.1, 48, .inl x_spoken))] := hD
        refine lv_aload_n hx hb dX9_keep_55 rfl (lv_at hl 0 rfl) ?_
        refine va_get (D := G.1) (ci := 9) (v := .int (x_kept + 1)) (C := RX9) (T := TX9) (N := 19) hx hb hts hiX9 hown hK hP 0 rfl rfl 10 (by decide) (hts (.fieldLink RX9 102 "LodgingNamesModel" "kept" "I") (by decide +kernel)) (fun _ h9 => h9) rfl dX9_keep_56 ?_
        exact hret _ _ _ _ _ ((x_kept + 1), x_images_2) rfl dX9_keep_59 h hP hD hS
      · have h := wp_f h hc
        refine lv_aload_n hx hb dX9_keep_19 rfl (lv_at hl 0 rfl) ?_
        refine va_get (D := G.1) (ci := 9) (v := .ref x7) (C := RX9) (T := TX9) (N := 19) hx hb hts hiX9 hown hK hP 0 rfl rfl 9 (by decide) (hts (.fieldLink RX9 28 "LodgingNamesModel" "images" "[I") (by decide +kernel)) (fun _ h9 => h9) rfl dX9_keep_20 ?_
        refine lv_bipush (v := 86) hx hb dX9_keep_23 (by decide) ?_
        refine lv_aload_n hx hb dX9_keep_25 rfl (lv_at hl 0 rfl) ?_
        refine va_get (D := G.1) (ci := 9) (v := .int x_kept) (C := RX9) (T := TX9) (N := 19) hx hb hts hiX9 hown hK hP 0 rfl rfl 10 (by decide) (hts (.fieldLink RX9 102 "LodgingNamesModel" "kept" "I") (by decide +kernel)) (fun _ h9 => h9) rfl dX9_keep_26 ?_
        refine lv_imul hx hb dX9_keep_29 ?_
        refine lv_iload_n hx hb dX9_keep_30 rfl (lv_at hl 1 rfl) ?_
        refine lv_iadd hx hb dX9_keep_31 ?_
        refine lv_aload_n hx hb dX9_keep_32 rfl (lv_at hl 0 rfl) ?_
        refine va_get (D := G.1) (ci := 9) (v := .ref x5) (C := RX9) (T := TX9) (N := 19) hx hb hts hiX9 hown hK hP 0 rfl rfl 6 (by decide) (hts (.fieldLink RX9 22 "LodgingNamesModel" "s" "[I") (by decide +kernel)) (fun _ h9 => h9) rfl dX9_keep_33 ?_
        refine lv_iload_n hx hb dX9_keep_36 rfl (lv_at hl 1 rfl) ?_
        obtain ⟨hin, h⟩ := h
        refine va_iald hx hb hK hP 5 0 rfl rfl hin dX9_keep_37 ?_
        obtain ⟨hin, h⟩ := h
        refine va_iast hx hb hK hP hD hS 7 0 rfl rfl hin dX9_keep_38 (fun H locs hP hD hS => ?_)
        have hP : va_P G.1 vwCl [(x0, .inr (9, [.ref x1, .int x_typed, .ref x2, .ref x3, .ref x4, .int x_words, .ref x5, .ref x6, .int x_known, .ref x7, .int x_kept, .ref x8, .ref x9, .int x_sights, .int x_at, .int x_without, .ref x10, .ref x11, .ref x12])), (x1, .inl (G.2.1, 200, .inl x_text)), (x2, .inl (G.2.1, 37, .inl x_told)), (x3, .inl (G.2.1, 37, .inl x_draft)), (x4, .inl (G.2.1, 36, .inl x_begun)), (x5, .inl (G.2.1, 86, .inl x_s)), (x6, .inl (G.2.1, 688, .inl x_past)), (x7, .inl (G.2.1, 172, .inl (upd x_images_2 (Int32.toNatClampNeg ((86 * x_kept) + v_1)) (x_s (Int32.toNatClampNeg v_1))))), (x8, .inl (G.2.1, 6, .inl x_seen)), (x9, .inl (G.2.1, 6, .inl x_seenDays)), (x10, .inl (G.2.1, 86, .inl x_held)), (x11, .inl (G.2.1, 81, .inl x_worth)), (x12, .inl (G.2.1, 48, .inl x_spoken))] H := hP
        have hD : va_D A [(x0, .inr (9, [.ref x1, .int x_typed, .ref x2, .ref x3, .ref x4, .int x_words, .ref x5, .ref x6, .int x_known, .ref x7, .int x_kept, .ref x8, .ref x9, .int x_sights, .int x_at, .int x_without, .ref x10, .ref x11, .ref x12])), (x1, .inl (G.2.1, 200, .inl x_text)), (x2, .inl (G.2.1, 37, .inl x_told)), (x3, .inl (G.2.1, 37, .inl x_draft)), (x4, .inl (G.2.1, 36, .inl x_begun)), (x5, .inl (G.2.1, 86, .inl x_s)), (x6, .inl (G.2.1, 688, .inl x_past)), (x7, .inl (G.2.1, 172, .inl (upd x_images_2 (Int32.toNatClampNeg ((86 * x_kept) + v_1)) (x_s (Int32.toNatClampNeg v_1))))), (x8, .inl (G.2.1, 6, .inl x_seen)), (x9, .inl (G.2.1, 6, .inl x_seenDays)), (x10, .inl (G.2.1, 86, .inl x_held)), (x11, .inl (G.2.1, 81, .inl x_worth)), (x12, .inl (G.2.1, 48, .inl x_spoken))] := hD
        refine lv_iinc (v := (v_1 + 1)) (lv' := [(1, .int (v_1 + 1)), (0, .ref x0)]) hx hb dX9_keep_39 hl (k := 1) rfl rfl (by decide) rfl (fun ls hl => ?_)
        refine lv_goto (tgt := 13) hx hb dX9_keep_42 (by decide) ?_
        exact h _ _ _ hP hD hS (lv_sub hl [1, 0] rfl))
    exact h _ _ _ hP hD hS (lv_sub hl [1, 0] rfl)
  · have h := wp_t h hc
    refine lv_bipush (v := (-3)) hx hb dX9_keep_8 (by decide) ?_
    exact hret _ _ _ _ _ (x_kept, x_images) rfl dX9_keep_10 h hP hD hS

abbrev rmX9_back : Room := { frames := 0, cells := 0, slots := 0, locals := 0 }
set_option maxHeartbeats 4000000 in
set_option maxRecDepth 100000 in
theorem MX9_back (l : Launch) (G : kG) (x0 x1 x2 x3 x4 x5 x6 x7 x8 x9 x10 x11 x12 : Nat) (x_typed : Int32) (x_words : Int32) (x_known : Int32) (x_kept : Int32) (x_sights : Int32) (x_at : Int32) (x_without : Int32) (x_text : Nat → Int32) (x_told : Nat → Int32) (x_draft : Nat → Int32) (x_begun : Nat → Int32) (x_s : Nat → Int32) (x_past : Nat → Int32) (x_images : Nat → Int32) (x_seen : Nat → Int32) (x_seenDays : Nat → Int32) (x_held : Nat → Int32) (x_worth : Nat → Int32) (x_spoken : Nat → Int32) {K : Int32 → Int32 → Int32 → (Nat → Int32) → Prop} (h : wpX9_back x_known x_kept x_s x_images K) : kI l G yX9_back wsX9_back rmX9_back [.ref x0] [(x0, .inr (9, [.ref x1, .int x_typed, .ref x2, .ref x3, .ref x4, .int x_words, .ref x5, .ref x6, .int x_known, .ref x7, .int x_kept, .ref x8, .ref x9, .int x_sights, .int x_at, .int x_without, .ref x10, .ref x11, .ref x12])), (x1, .inl (G.2.1, 200, .inl x_text)), (x2, .inl (G.2.1, 37, .inl x_told)), (x3, .inl (G.2.1, 37, .inl x_draft)), (x4, .inl (G.2.1, 36, .inl x_begun)), (x5, .inl (G.2.1, 86, .inl x_s)), (x6, .inl (G.2.1, 688, .inl x_past)), (x7, .inl (G.2.1, 172, .inl x_images)), (x8, .inl (G.2.1, 6, .inl x_seen)), (x9, .inl (G.2.1, 6, .inl x_seenDays)), (x10, .inl (G.2.1, 86, .inl x_held)), (x11, .inl (G.2.1, 81, .inl x_worth)), (x12, .inl (G.2.1, 48, .inl x_spoken))] (S := (Int32) × (Int32) × (Nat → Int32)) (fun u => [(x0, .inr (9, [.ref x1, .int x_typed, .ref x2, .ref x3, .ref x4, .int x_words, .ref x5, .ref x6, .int u.1, .ref x7, .int u.2.1, .ref x8, .ref x9, .int x_sights, .int x_at, .int x_without, .ref x10, .ref x11, .ref x12])), (x1, .inl (G.2.1, 200, .inl x_text)), (x2, .inl (G.2.1, 37, .inl x_told)), (x3, .inl (G.2.1, 37, .inl x_draft)), (x4, .inl (G.2.1, 36, .inl x_begun)), (x5, .inl (G.2.1, 86, .inl u.2.2)), (x6, .inl (G.2.1, 688, .inl x_past)), (x7, .inl (G.2.1, 172, .inl x_images)), (x8, .inl (G.2.1, 6, .inl x_seen)), (x9, .inl (G.2.1, 6, .inl x_seenDays)), (x10, .inl (G.2.1, 86, .inl x_held)), (x11, .inl (G.2.1, 81, .inl x_worth)), (x12, .inl (G.2.1, 48, .inl x_spoken))]) (fun r u => K r u.1 u.2.1 u.2.2) 0 0 := by
  refine kI_of (cc := cX9_back) (maxL := 2) (ret := .int) (by decide) rfl (Nat.le_of_ble_eq_true rfl) ?_
  intro p e s m below meth c Q A ls Fx hK hN hA hnm hret hP hD hl hS
  obtain ⟨hx, hb, hml, hown, hts⟩ := id Fx
  have hown : s.vm.findClass RX9 = some m.cls := hown
  have hl : lv_has ls 2 [(0, .ref x0)] := hl
  have hiX9 : ∀ w ∈ u_ws RX9 TX9 19, w ∈ wsX9_back := by decide +kernel
  unfold wpX9_back at h
  refine lv_aload_n hx hb dX9_back_0 rfl (lv_at hl 0 rfl) ?_
  refine va_get (D := G.1) (ci := 9) (v := .int x_kept) (C := RX9) (T := TX9) (N := 19) hx hb hts hiX9 hown hK hP 0 rfl rfl 10 (by decide) (hts (.fieldLink RX9 102 "LodgingNamesModel" "kept" "I") (by decide +kernel)) (fun _ h9 => h9) rfl dX9_back_1 ?_
  refine lv_if_ne (tgt := 10) hx hb dX9_back_4 (by decide) (fun hc => ?_) (fun hc => ?_)
  · have h := wp_f h hc
    refine lv_aload_n hx hb dX9_back_10 rfl (lv_at hl 0 rfl) ?_
    refine lv_dup hx hb dX9_back_11 rfl ?_
    refine va_get (D := G.1) (ci := 9) (v := .int x_kept) (C := RX9) (T := TX9) (N := 19) hx hb hts hiX9 hown hK hP 0 rfl rfl 10 (by decide) (hts (.fieldLink RX9 102 "LodgingNamesModel" "kept" "I") (by decide +kernel)) (fun _ h9 => h9) rfl dX9_back_12 ?_
    refine lv_iconst (v := 1) hx hb dX9_back_15 (by decide) ?_
    refine lv_isub hx hb dX9_back_16 ?_
    refine va_put (D := G.1) (ci := 9) (v := .int (x_kept - 1)) (ty := .int) (C := RX9) (T := TX9) (N := 19) hx hb hts hiX9 tyX9 tyX9_ok nmX9 hown hK hP hD hS 0 rfl rfl 10 (by decide) (hts (.fieldLink RX9 102 "LodgingNamesModel" "kept" "I") (by decide +kernel)) (fun _ h9 => h9) rfl rfl rfl rfl (Nat.le_of_ble_eq_true rfl) dX9_back_17 (fun H locs hP hD hS => ?_)
    have hP : va_P G.1 vwCl [(x0, .inr (9, [.ref x1, .int x_typed, .ref x2, .ref x3, .ref x4, .int x_words, .ref x5, .ref x6, .int x_known, .ref x7, .int (x_kept - 1), .ref x8, .ref x9, .int x_sights, .int x_at, .int x_without, .ref x10, .ref x11, .ref x12])), (x1, .inl (G.2.1, 200, .inl x_text)), (x2, .inl (G.2.1, 37, .inl x_told)), (x3, .inl (G.2.1, 37, .inl x_draft)), (x4, .inl (G.2.1, 36, .inl x_begun)), (x5, .inl (G.2.1, 86, .inl x_s)), (x6, .inl (G.2.1, 688, .inl x_past)), (x7, .inl (G.2.1, 172, .inl x_images)), (x8, .inl (G.2.1, 6, .inl x_seen)), (x9, .inl (G.2.1, 6, .inl x_seenDays)), (x10, .inl (G.2.1, 86, .inl x_held)), (x11, .inl (G.2.1, 81, .inl x_worth)), (x12, .inl (G.2.1, 48, .inl x_spoken))] H := hP
    have hD : va_D A [(x0, .inr (9, [.ref x1, .int x_typed, .ref x2, .ref x3, .ref x4, .int x_words, .ref x5, .ref x6, .int x_known, .ref x7, .int (x_kept - 1), .ref x8, .ref x9, .int x_sights, .int x_at, .int x_without, .ref x10, .ref x11, .ref x12])), (x1, .inl (G.2.1, 200, .inl x_text)), (x2, .inl (G.2.1, 37, .inl x_told)), (x3, .inl (G.2.1, 37, .inl x_draft)), (x4, .inl (G.2.1, 36, .inl x_begun)), (x5, .inl (G.2.1, 86, .inl x_s)), (x6, .inl (G.2.1, 688, .inl x_past)), (x7, .inl (G.2.1, 172, .inl x_images)), (x8, .inl (G.2.1, 6, .inl x_seen)), (x9, .inl (G.2.1, 6, .inl x_seenDays)), (x10, .inl (G.2.1, 86, .inl x_held)), (x11, .inl (G.2.1, 81, .inl x_worth)), (x12, .inl (G.2.1, 48, .inl x_spoken))] := hD
    refine lv_iconst (v := 0) hx hb dX9_back_20 (by decide) ?_
    refine lv_istore_n (lv' := [(1, .int 0), (0, .ref x0)]) hx hb dX9_back_21 rfl hl (by decide) rfl (fun ls hl => ?_)
    have h := h (fun (v_1 : Int32) (x_s_2 : Nat → Int32) => ∀ (H : Heap) (locs : List Loc) (ls : Array Slot), va_P G.1 vwCl [(x0, .inr (9, [.ref x1, .int x_typed, .ref x2, .ref x3, .ref x4, .int x_words, .ref x5, .ref x6, .int x_known, .ref x7, .int (x_kept - 1), .ref x8, .ref x9, .int x_sights, .int x_at, .int x_without, .ref x10, .ref x11, .ref x12])), (x1, .inl (G.2.1, 200, .inl x_text)), (x2, .inl (G.2.1, 37, .inl x_told)), (x3, .inl (G.2.1, 37, .inl x_draft)), (x4, .inl (G.2.1, 36, .inl x_begun)), (x5, .inl (G.2.1, 86, .inl x_s_2)), (x6, .inl (G.2.1, 688, .inl x_past)), (x7, .inl (G.2.1, 172, .inl x_images)), (x8, .inl (G.2.1, 6, .inl x_seen)), (x9, .inl (G.2.1, 6, .inl x_seenDays)), (x10, .inl (G.2.1, 86, .inl x_held)), (x11, .inl (G.2.1, 81, .inl x_worth)), (x12, .inl (G.2.1, 48, .inl x_spoken))] H → va_D A [(x0, .inr (9, [.ref x1, .int x_typed, .ref x2, .ref x3, .ref x4, .int x_words, .ref x5, .ref x6, .int x_known, .ref x7, .int (x_kept - 1), .ref x8, .ref x9, .int x_sights, .int x_at, .int x_without, .ref x10, .ref x11, .ref x12])), (x1, .inl (G.2.1, 200, .inl x_text)), (x2, .inl (G.2.1, 37, .inl x_told)), (x3, .inl (G.2.1, 37, .inl x_draft)), (x4, .inl (G.2.1, 36, .inl x_begun)), (x5, .inl (G.2.1, 86, .inl x_s_2)), (x6, .inl (G.2.1, 688, .inl x_past)), (x7, .inl (G.2.1, 172, .inl x_images)), (x8, .inl (G.2.1, 6, .inl x_seen)), (x9, .inl (G.2.1, 6, .inl x_seenDays)), (x10, .inl (G.2.1, 86, .inl x_held)), (x11, .inl (G.2.1, 81, .inl x_worth)), (x12, .inl (G.2.1, 48, .inl x_spoken))] → va_S A s.heap H locs → lv_has ls 2 [(0, .ref x0), (1, .int v_1)] → W p l e rmX9_back s m [.ref x0].toArray below meth c H locs 0 0 Q (F0 m 22 ls []))
    have h := h (fun v_1 x_s_2 h H locs ls hP hD hS hl => by
      refine lv_iload_n hx hb dX9_back_22 rfl (lv_at hl 1 rfl) ?_
      refine lv_bipush (v := 86) hx hb dX9_back_23 (by decide) ?_
      refine lv_icmp_ge (tgt := 54) hx hb dX9_back_25 (by decide) (fun hc => ?_) (fun hc => ?_)
      · have h := wp_t h hc
        refine lv_aload_n hx hb dX9_back_54 rfl (lv_at hl 0 rfl) ?_
        refine lv_iconst (v := 0) hx hb dX9_back_55 (by decide) ?_
        refine va_put (D := G.1) (ci := 9) (v := .int 0) (ty := .int) (C := RX9) (T := TX9) (N := 19) hx hb hts hiX9 tyX9 tyX9_ok nmX9 hown hK hP hD hS 0 rfl rfl 8 (by decide) (hts (.fieldLink RX9 99 "LodgingNamesModel" "known" "I") (by decide +kernel)) (fun _ h9 => h9) rfl rfl rfl rfl (Nat.le_of_ble_eq_true rfl) dX9_back_56 (fun H locs hP hD hS => ?_)
        have hP : va_P G.1 vwCl [(x0, .inr (9, [.ref x1, .int x_typed, .ref x2, .ref x3, .ref x4, .int x_words, .ref x5, .ref x6, .int 0, .ref x7, .int (x_kept - 1), .ref x8, .ref x9, .int x_sights, .int x_at, .int x_without, .ref x10, .ref x11, .ref x12])), (x1, .inl (G.2.1, 200, .inl x_text)), (x2, .inl (G.2.1, 37, .inl x_told)), (x3, .inl (G.2.1, 37, .inl x_draft)), (x4, .inl (G.2.1, 36, .inl x_begun)), (x5, .inl (G.2.1, 86, .inl x_s_2)), (x6, .inl (G.2.1, 688, .inl x_past)), (x7, .inl (G.2.1, 172, .inl x_images)), (x8, .inl (G.2.1, 6, .inl x_seen)), (x9, .inl (G.2.1, 6, .inl x_seenDays)), (x10, .inl (G.2.1, 86, .inl x_held)), (x11, .inl (G.2.1, 81, .inl x_worth)), (x12, .inl (G.2.1, 48, .inl x_spoken))] H := hP
        have hD : va_D A [(x0, .inr (9, [.ref x1, .int x_typed, .ref x2, .ref x3, .ref x4, .int x_words, .ref x5, .ref x6, .int 0, .ref x7, .int (x_kept - 1), .ref x8, .ref x9, .int x_sights, .int x_at, .int x_without, .ref x10, .ref x11, .ref x12])), (x1, .inl (G.2.1, 200, .inl x_text)), (x2, .inl (G.2.1, 37, .inl x_told)), (x3, .inl (G.2.1, 37, .inl x_draft)), (x4, .inl (G.2.1, 36, .inl x_begun)), (x5, .inl (G.2.1, 86, .inl x_s_2)), (x6, .inl (G.2.1, 688, .inl x_past)), (x7, .inl (G.2.1, 172, .inl x_images)), (x8, .inl (G.2.1, 6, .inl x_seen)), (x9, .inl (G.2.1, 6, .inl x_seenDays)), (x10, .inl (G.2.1, 86, .inl x_held)), (x11, .inl (G.2.1, 81, .inl x_worth)), (x12, .inl (G.2.1, 48, .inl x_spoken))] := hD
        refine lv_aload_n hx hb dX9_back_59 rfl (lv_at hl 0 rfl) ?_
        refine va_get (D := G.1) (ci := 9) (v := .int (x_kept - 1)) (C := RX9) (T := TX9) (N := 19) hx hb hts hiX9 hown hK hP 0 rfl rfl 10 (by decide) (hts (.fieldLink RX9 102 "LodgingNamesModel" "kept" "I") (by decide +kernel)) (fun _ h9 => h9) rfl dX9_back_60 ?_
        exact hret _ _ _ _ _ (0, (x_kept - 1), x_s_2) rfl dX9_back_63 h hP hD hS
      · have h := wp_f h hc
        refine lv_aload_n hx hb dX9_back_28 rfl (lv_at hl 0 rfl) ?_
        refine va_get (D := G.1) (ci := 9) (v := .ref x5) (C := RX9) (T := TX9) (N := 19) hx hb hts hiX9 hown hK hP 0 rfl rfl 6 (by decide) (hts (.fieldLink RX9 22 "LodgingNamesModel" "s" "[I") (by decide +kernel)) (fun _ h9 => h9) rfl dX9_back_29 ?_
        refine lv_iload_n hx hb dX9_back_32 rfl (lv_at hl 1 rfl) ?_
        refine lv_aload_n hx hb dX9_back_33 rfl (lv_at hl 0 rfl) ?_
        refine va_get (D := G.1) (ci := 9) (v := .ref x7) (C := RX9) (T := TX9) (N := 19) hx hb hts hiX9 hown hK hP 0 rfl rfl 9 (by decide) (hts (.fieldLink RX9 28 "LodgingNamesModel" "images" "[I") (by decide +kernel)) (fun _ h9 => h9) rfl dX9_back_34 ?_
        refine lv_bipush (v := 86) hx hb dX9_back_37 (by decide) ?_
        refine lv_aload_n hx hb dX9_back_39 rfl (lv_at hl 0 rfl) ?_
        refine va_get (D := G.1) (ci := 9) (v := .int (x_kept - 1)) (C := RX9) (T := TX9) (N := 19) hx hb hts hiX9 hown hK hP 0 rfl rfl 10 (by decide) (hts (.fieldLink RX9 102 "LodgingNamesModel" "kept" "I") (by decide +kernel)) (fun _ h9 => h9) rfl dX9_back_40 ?_
        refine lv_imul hx hb dX9_back_43 ?_
        refine lv_iload_n hx hb dX9_back_44 rfl (lv_at hl 1 rfl) ?_
        refine lv_iadd hx hb dX9_back_45 ?_
        obtain ⟨hin, h⟩ := h
        refine va_iald hx hb hK hP 7 0 rfl rfl hin dX9_back_46 ?_
        obtain ⟨hin, h⟩ := h
        refine va_iast hx hb hK hP hD hS 5 0 rfl rfl hin dX9_back_47 (fun H locs hP hD hS => ?_)
        have hP : va_P G.1 vwCl [(x0, .inr (9, [.ref x1, .int x_typed, .ref x2, .ref x3, .ref x4, .int x_words, .ref x5, .ref x6, .int x_known, .ref x7, .int (x_kept - 1), .ref x8, .ref x9, .int x_sights, .int x_at, .int x_without, .ref x10, .ref x11, .ref x12])), (x1, .inl (G.2.1, 200, .inl x_text)), (x2, .inl (G.2.1, 37, .inl x_told)), (x3, .inl (G.2.1, 37, .inl x_draft)), (x4, .inl (G.2.1, 36, .inl x_begun)), (x5, .inl (G.2.1, 86, .inl (upd x_s_2 (Int32.toNatClampNeg v_1) (x_images (Int32.toNatClampNeg ((86 * (x_kept - 1)) + v_1)))))), (x6, .inl (G.2.1, 688, .inl x_past)), (x7, .inl (G.2.1, 172, .inl x_images)), (x8, .inl (G.2.1, 6, .inl x_seen)), (x9, .inl (G.2.1, 6, .inl x_seenDays)), (x10, .inl (G.2.1, 86, .inl x_held)), (x11, .inl (G.2.1, 81, .inl x_worth)), (x12, .inl (G.2.1, 48, .inl x_spoken))] H := hP
        have hD : va_D A [(x0, .inr (9, [.ref x1, .int x_typed, .ref x2, .ref x3, .ref x4, .int x_words, .ref x5, .ref x6, .int x_known, .ref x7, .int (x_kept - 1), .ref x8, .ref x9, .int x_sights, .int x_at, .int x_without, .ref x10, .ref x11, .ref x12])), (x1, .inl (G.2.1, 200, .inl x_text)), (x2, .inl (G.2.1, 37, .inl x_told)), (x3, .inl (G.2.1, 37, .inl x_draft)), (x4, .inl (G.2.1, 36, .inl x_begun)), (x5, .inl (G.2.1, 86, .inl (upd x_s_2 (Int32.toNatClampNeg v_1) (x_images (Int32.toNatClampNeg ((86 * (x_kept - 1)) + v_1)))))), (x6, .inl (G.2.1, 688, .inl x_past)), (x7, .inl (G.2.1, 172, .inl x_images)), (x8, .inl (G.2.1, 6, .inl x_seen)), (x9, .inl (G.2.1, 6, .inl x_seenDays)), (x10, .inl (G.2.1, 86, .inl x_held)), (x11, .inl (G.2.1, 81, .inl x_worth)), (x12, .inl (G.2.1, 48, .inl x_spoken))] := hD
        refine lv_iinc (v := (v_1 + 1)) (lv' := [(1, .int (v_1 + 1)), (0, .ref x0)]) hx hb dX9_back_48 hl (k := 1) rfl rfl (by decide) rfl (fun ls hl => ?_)
        refine lv_goto (tgt := 22) hx hb dX9_back_51 (by decide) ?_
        exact h _ _ _ hP hD hS (lv_sub hl [1, 0] rfl))
    exact h _ _ _ hP hD hS (lv_sub hl [1, 0] rfl)
  · have h := wp_t h hc
    refine lv_bipush (v := (-2)) hx hb dX9_back_7 (by decide) ?_
    exact hret _ _ _ _ _ (x_known, x_kept, x_s) rfl dX9_back_9 h hP hD hS

abbrev rmX9_count : Room := { frames := 2, cells := 0, slots := 0, locals := 45 }
set_option maxHeartbeats 4000000 in
set_option maxRecDepth 100000 in
theorem MX9_count (l : Launch) (G : kG) (x0 x1 x2 x3 x4 x5 x6 x7 x8 x9 x10 x11 x12 : Nat) (x_typed : Int32) (x_words : Int32) (x_known : Int32) (x_kept : Int32) (x_sights : Int32) (x_at : Int32) (x_without : Int32) (x_text : Nat → Int32) (x_told : Nat → Int32) (x_draft : Nat → Int32) (x_begun : Nat → Int32) (x_s : Nat → Int32) (x_past : Nat → Int32) (x_images : Nat → Int32) (x_seen : Nat → Int32) (x_seenDays : Nat → Int32) (x_held : Nat → Int32) (x_worth : Nat → Int32) (x_spoken : Nat → Int32) (a1 : Int32) {K : Int32 → Prop} (h : wpX9_count x_typed x_known x_kept x_sights x_told x_s a1 K) : kI l G yX9_count wsX9_count rmX9_count [.ref x0, .int a1] [(x0, .inr (9, [.ref x1, .int x_typed, .ref x2, .ref x3, .ref x4, .int x_words, .ref x5, .ref x6, .int x_known, .ref x7, .int x_kept, .ref x8, .ref x9, .int x_sights, .int x_at, .int x_without, .ref x10, .ref x11, .ref x12])), (x1, .inl (G.2.1, 200, .inl x_text)), (x2, .inl (G.2.1, 37, .inl x_told)), (x3, .inl (G.2.1, 37, .inl x_draft)), (x4, .inl (G.2.1, 36, .inl x_begun)), (x5, .inl (G.2.1, 86, .inl x_s)), (x6, .inl (G.2.1, 688, .inl x_past)), (x7, .inl (G.2.1, 172, .inl x_images)), (x8, .inl (G.2.1, 6, .inl x_seen)), (x9, .inl (G.2.1, 6, .inl x_seenDays)), (x10, .inl (G.2.1, 86, .inl x_held)), (x11, .inl (G.2.1, 81, .inl x_worth)), (x12, .inl (G.2.1, 48, .inl x_spoken))] (S := Unit) (fun _ => [(x0, .inr (9, [.ref x1, .int x_typed, .ref x2, .ref x3, .ref x4, .int x_words, .ref x5, .ref x6, .int x_known, .ref x7, .int x_kept, .ref x8, .ref x9, .int x_sights, .int x_at, .int x_without, .ref x10, .ref x11, .ref x12])), (x1, .inl (G.2.1, 200, .inl x_text)), (x2, .inl (G.2.1, 37, .inl x_told)), (x3, .inl (G.2.1, 37, .inl x_draft)), (x4, .inl (G.2.1, 36, .inl x_begun)), (x5, .inl (G.2.1, 86, .inl x_s)), (x6, .inl (G.2.1, 688, .inl x_past)), (x7, .inl (G.2.1, 172, .inl x_images)), (x8, .inl (G.2.1, 6, .inl x_seen)), (x9, .inl (G.2.1, 6, .inl x_seenDays)), (x10, .inl (G.2.1, 86, .inl x_held)), (x11, .inl (G.2.1, 81, .inl x_worth)), (x12, .inl (G.2.1, 48, .inl x_spoken))]) (fun r u => K r) 0 0 := by
  refine kI_of (cc := cX9_count) (maxL := 2) (ret := .int) (by decide) rfl (Nat.le_of_ble_eq_true rfl) ?_
  intro p e s m below meth c Q A ls Fx hK hN hA hnm hret hP hD hl hS
  obtain ⟨hx, hb, hml, hown, hts⟩ := id Fx
  have hown : s.vm.findClass RX9 = some m.cls := hown
  have hl : lv_has ls 2 [(0, .ref x0), (1, .int a1)] := hl
  have hiX9 : ∀ w ∈ u_ws RX9 TX9 19, w ∈ wsX9_count := by decide +kernel
  unfold wpX9_count at h
  refine lv_iload_n hx hb dX9_count_0 rfl (lv_at hl 1 rfl) ?_
  by_cases c1_0 : a1 = 0
  · have h := wp_t h c1_0
    refine lv_tableIn (tgt := 60) hx hb dX9_count_1 (by rw [c1_0] <;> decide) (by rw [c1_0] <;> decide) (by rw [c1_0] <;> rfl) (by decide) ?_
    refine lv_aload_n hx hb dX9_count_60 rfl (lv_at hl 0 rfl) ?_
    refine va_get (D := G.1) (ci := 9) (v := .ref x2) (C := RX9) (T := TX9) (N := 19) hx hb hts hiX9 hown hK hP 0 rfl rfl 2 (by decide) (hts (.fieldLink RX9 13 "LodgingNamesModel" "told" "[I") (by decide +kernel)) (fun _ h9 => h9) rfl dX9_count_61 ?_
    refine lv_iconst (v := 0) hx hb dX9_count_64 (by decide) ?_
    obtain ⟨hin, h⟩ := h
    refine va_iald hx hb hK hP 2 0 rfl rfl hin dX9_count_65 ?_
    exact hret _ _ _ _ _ () rfl dX9_count_66 h hP hD hS
  have h := wp_f h c1_0
  by_cases c1_1 : a1 = 1
  · have h := wp_t h c1_1
    refine lv_tableIn (tgt := 67) hx hb dX9_count_1 (by rw [c1_1] <;> decide) (by rw [c1_1] <;> decide) (by rw [c1_1] <;> rfl) (by decide) ?_
    refine lv_aload_n hx hb dX9_count_67 rfl (lv_at hl 0 rfl) ?_
    refine va_get (D := G.1) (ci := 9) (v := .ref x2) (C := RX9) (T := TX9) (N := 19) hx hb hts hiX9 hown hK hP 0 rfl rfl 2 (by decide) (hts (.fieldLink RX9 13 "LodgingNamesModel" "told" "[I") (by decide +kernel)) (fun _ h9 => h9) rfl dX9_count_68 ?_
    refine lv_iconst (v := 1) hx hb dX9_count_71 (by decide) ?_
    obtain ⟨hin, h⟩ := h
    refine va_iald hx hb hK hP 2 0 rfl rfl hin dX9_count_72 ?_
    exact hret _ _ _ _ _ () rfl dX9_count_73 h hP hD hS
  have h := wp_f h c1_1
  by_cases c1_2 : a1 = 2
  · have h := wp_t h c1_2
    refine lv_tableIn (tgt := 74) hx hb dX9_count_1 (by rw [c1_2] <;> decide) (by rw [c1_2] <;> decide) (by rw [c1_2] <;> rfl) (by decide) ?_
    refine lv_aload_n hx hb dX9_count_74 rfl (lv_at hl 0 rfl) ?_
    refine kc_i (Wr := []) (va_runV (As := []) (rest := []) Fx (MX9_allWords l G x0 x1 x2 x3 x4 x5 x6 x7 x8 x9 x10 x11 x12 x_typed x_words x_known x_kept x_sights x_at x_without x_text x_told x_draft x_begun x_s x_past x_images x_seen x_seenDays x_held x_worth x_spoken h s.heap.size) (cwV 0 hts gX9_count_X9_allWords rfl rfl rfl (by decide +kernel) ⟨Nat.le_of_ble_eq_true rfl, Nat.le_of_ble_eq_true rfl⟩) (kpreV hP hD hK hN [0, 1, 2, 3, 4, 5, 6, 7, 8, 9, 10, 11, 12] rfl rfl 0 rfl rfl) rfl rfl hl.1 rfl (lv_room (Nat.le_of_ble_eq_true rfl)) dX9_count_75 ⟨Nat.le_of_ble_eq_true rfl, Nat.le_of_ble_eq_true rfl⟩) hP hD hS hA [0, 1, 2, 3, 4, 5, 6, 7, 8, 9, 10, 11, 12] [] rfl rfl rfl (by decide +kernel) (fun r_1 u H locs h hP hD hS => ?_)
    have hP : va_P G.1 vwCl [(x0, .inr (9, [.ref x1, .int x_typed, .ref x2, .ref x3, .ref x4, .int x_words, .ref x5, .ref x6, .int x_known, .ref x7, .int x_kept, .ref x8, .ref x9, .int x_sights, .int x_at, .int x_without, .ref x10, .ref x11, .ref x12])), (x1, .inl (G.2.1, 200, .inl x_text)), (x2, .inl (G.2.1, 37, .inl x_told)), (x3, .inl (G.2.1, 37, .inl x_draft)), (x4, .inl (G.2.1, 36, .inl x_begun)), (x5, .inl (G.2.1, 86, .inl x_s)), (x6, .inl (G.2.1, 688, .inl x_past)), (x7, .inl (G.2.1, 172, .inl x_images)), (x8, .inl (G.2.1, 6, .inl x_seen)), (x9, .inl (G.2.1, 6, .inl x_seenDays)), (x10, .inl (G.2.1, 86, .inl x_held)), (x11, .inl (G.2.1, 81, .inl x_worth)), (x12, .inl (G.2.1, 48, .inl x_spoken))] H := hP
    have hD : va_D A [(x0, .inr (9, [.ref x1, .int x_typed, .ref x2, .ref x3, .ref x4, .int x_words, .ref x5, .ref x6, .int x_known, .ref x7, .int x_kept, .ref x8, .ref x9, .int x_sights, .int x_at, .int x_without, .ref x10, .ref x11, .ref x12])), (x1, .inl (G.2.1, 200, .inl x_text)), (x2, .inl (G.2.1, 37, .inl x_told)), (x3, .inl (G.2.1, 37, .inl x_draft)), (x4, .inl (G.2.1, 36, .inl x_begun)), (x5, .inl (G.2.1, 86, .inl x_s)), (x6, .inl (G.2.1, 688, .inl x_past)), (x7, .inl (G.2.1, 172, .inl x_images)), (x8, .inl (G.2.1, 6, .inl x_seen)), (x9, .inl (G.2.1, 6, .inl x_seenDays)), (x10, .inl (G.2.1, 86, .inl x_held)), (x11, .inl (G.2.1, 81, .inl x_worth)), (x12, .inl (G.2.1, 48, .inl x_spoken))] := hD
    exact hret _ _ _ _ _ () rfl dX9_count_78 h hP hD hS
  have h := wp_f h c1_2
  by_cases c1_3 : a1 = 3
  · have h := wp_t h c1_3
    refine lv_tableIn (tgt := 79) hx hb dX9_count_1 (by rw [c1_3] <;> decide) (by rw [c1_3] <;> decide) (by rw [c1_3] <;> rfl) (by decide) ?_
    refine lv_aload_n hx hb dX9_count_79 rfl (lv_at hl 0 rfl) ?_
    refine kc_i (Wr := []) (va_runV (As := []) (rest := []) Fx (MX9_lodgings l G x0 x1 x2 x3 x4 x5 x6 x7 x8 x9 x10 x11 x12 x_typed x_words x_known x_kept x_sights x_at x_without x_text x_told x_draft x_begun x_s x_past x_images x_seen x_seenDays x_held x_worth x_spoken h s.heap.size) (cwV 0 hts gX9_count_X9_lodgings rfl rfl rfl (by decide +kernel) ⟨Nat.le_of_ble_eq_true rfl, Nat.le_of_ble_eq_true rfl⟩) (kpreV hP hD hK hN [0, 1, 2, 3, 4, 5, 6, 7, 8, 9, 10, 11, 12] rfl rfl 0 rfl rfl) rfl rfl hl.1 rfl (lv_room (Nat.le_of_ble_eq_true rfl)) dX9_count_80 ⟨Nat.le_of_ble_eq_true rfl, Nat.le_of_ble_eq_true rfl⟩) hP hD hS hA [0, 1, 2, 3, 4, 5, 6, 7, 8, 9, 10, 11, 12] [] rfl rfl rfl (by decide +kernel) (fun r_2 u H locs h hP hD hS => ?_)
    have hP : va_P G.1 vwCl [(x0, .inr (9, [.ref x1, .int x_typed, .ref x2, .ref x3, .ref x4, .int x_words, .ref x5, .ref x6, .int x_known, .ref x7, .int x_kept, .ref x8, .ref x9, .int x_sights, .int x_at, .int x_without, .ref x10, .ref x11, .ref x12])), (x1, .inl (G.2.1, 200, .inl x_text)), (x2, .inl (G.2.1, 37, .inl x_told)), (x3, .inl (G.2.1, 37, .inl x_draft)), (x4, .inl (G.2.1, 36, .inl x_begun)), (x5, .inl (G.2.1, 86, .inl x_s)), (x6, .inl (G.2.1, 688, .inl x_past)), (x7, .inl (G.2.1, 172, .inl x_images)), (x8, .inl (G.2.1, 6, .inl x_seen)), (x9, .inl (G.2.1, 6, .inl x_seenDays)), (x10, .inl (G.2.1, 86, .inl x_held)), (x11, .inl (G.2.1, 81, .inl x_worth)), (x12, .inl (G.2.1, 48, .inl x_spoken))] H := hP
    have hD : va_D A [(x0, .inr (9, [.ref x1, .int x_typed, .ref x2, .ref x3, .ref x4, .int x_words, .ref x5, .ref x6, .int x_known, .ref x7, .int x_kept, .ref x8, .ref x9, .int x_sights, .int x_at, .int x_without, .ref x10, .ref x11, .ref x12])), (x1, .inl (G.2.1, 200, .inl x_text)), (x2, .inl (G.2.1, 37, .inl x_told)), (x3, .inl (G.2.1, 37, .inl x_draft)), (x4, .inl (G.2.1, 36, .inl x_begun)), (x5, .inl (G.2.1, 86, .inl x_s)), (x6, .inl (G.2.1, 688, .inl x_past)), (x7, .inl (G.2.1, 172, .inl x_images)), (x8, .inl (G.2.1, 6, .inl x_seen)), (x9, .inl (G.2.1, 6, .inl x_seenDays)), (x10, .inl (G.2.1, 86, .inl x_held)), (x11, .inl (G.2.1, 81, .inl x_worth)), (x12, .inl (G.2.1, 48, .inl x_spoken))] := hD
    exact hret _ _ _ _ _ () rfl dX9_count_83 h hP hD hS
  have h := wp_f h c1_3
  by_cases c1_4 : a1 = 4
  · have h := wp_t h c1_4
    refine lv_tableIn (tgt := 84) hx hb dX9_count_1 (by rw [c1_4] <;> decide) (by rw [c1_4] <;> decide) (by rw [c1_4] <;> rfl) (by decide) ?_
    refine lv_aload_n hx hb dX9_count_84 rfl (lv_at hl 0 rfl) ?_
    refine va_get (D := G.1) (ci := 9) (v := .ref x5) (C := RX9) (T := TX9) (N := 19) hx hb hts hiX9 hown hK hP 0 rfl rfl 6 (by decide) (hts (.fieldLink RX9 22 "LodgingNamesModel" "s" "[I") (by decide +kernel)) (fun _ h9 => h9) rfl dX9_count_85 ?_
    refine lv_bipush (v := 84) hx hb dX9_count_88 (by decide) ?_
    obtain ⟨hin, h⟩ := h
    refine va_iald hx hb hK hP 5 0 rfl rfl hin dX9_count_90 ?_
    exact hret _ _ _ _ _ () rfl dX9_count_91 h hP hD hS
  have h := wp_f h c1_4
  by_cases c1_5 : a1 = 5
  · have h := wp_t h c1_5
    refine lv_tableIn (tgt := 92) hx hb dX9_count_1 (by rw [c1_5] <;> decide) (by rw [c1_5] <;> decide) (by rw [c1_5] <;> rfl) (by decide) ?_
    refine lv_aload_n hx hb dX9_count_92 rfl (lv_at hl 0 rfl) ?_
    refine va_get (D := G.1) (ci := 9) (v := .ref x5) (C := RX9) (T := TX9) (N := 19) hx hb hts hiX9 hown hK hP 0 rfl rfl 6 (by decide) (hts (.fieldLink RX9 22 "LodgingNamesModel" "s" "[I") (by decide +kernel)) (fun _ h9 => h9) rfl dX9_count_93 ?_
    refine lv_bipush (v := 85) hx hb dX9_count_96 (by decide) ?_
    obtain ⟨hin, h⟩ := h
    refine va_iald hx hb hK hP 5 0 rfl rfl hin dX9_count_98 ?_
    exact hret _ _ _ _ _ () rfl dX9_count_99 h hP hD hS
  have h := wp_f h c1_5
  by_cases c1_6 : a1 = 6
  · have h := wp_t h c1_6
    refine lv_tableIn (tgt := 100) hx hb dX9_count_1 (by rw [c1_6] <;> decide) (by rw [c1_6] <;> decide) (by rw [c1_6] <;> rfl) (by decide) ?_
    refine lv_aload_n hx hb dX9_count_100 rfl (lv_at hl 0 rfl) ?_
    refine va_get (D := G.1) (ci := 9) (v := .ref x2) (C := RX9) (T := TX9) (N := 19) hx hb hts hiX9 hown hK hP 0 rfl rfl 2 (by decide) (hts (.fieldLink RX9 13 "LodgingNamesModel" "told" "[I") (by decide +kernel)) (fun _ h9 => h9) rfl dX9_count_101 ?_
    refine lv_iconst (v := 2) hx hb dX9_count_104 (by decide) ?_
    obtain ⟨hin, h⟩ := h
    refine va_iald hx hb hK hP 2 0 rfl rfl hin dX9_count_105 ?_
    exact hret _ _ _ _ _ () rfl dX9_count_106 h hP hD hS
  have h := wp_f h c1_6
  by_cases c1_7 : a1 = 7
  · have h := wp_t h c1_7
    refine lv_tableIn (tgt := 107) hx hb dX9_count_1 (by rw [c1_7] <;> decide) (by rw [c1_7] <;> decide) (by rw [c1_7] <;> rfl) (by decide) ?_
    refine lv_aload_n hx hb dX9_count_107 rfl (lv_at hl 0 rfl) ?_
    refine va_get (D := G.1) (ci := 9) (v := .int x_sights) (C := RX9) (T := TX9) (N := 19) hx hb hts hiX9 hown hK hP 0 rfl rfl 13 (by decide) (hts (.fieldLink RX9 105 "LodgingNamesModel" "sights" "I") (by decide +kernel)) (fun _ h9 => h9) rfl dX9_count_108 ?_
    exact hret _ _ _ _ _ () rfl dX9_count_111 h hP hD hS
  have h := wp_f h c1_7
  by_cases c1_8 : a1 = 8
  · have h := wp_t h c1_8
    refine lv_tableIn (tgt := 112) hx hb dX9_count_1 (by rw [c1_8] <;> decide) (by rw [c1_8] <;> decide) (by rw [c1_8] <;> rfl) (by decide) ?_
    refine lv_aload_n hx hb dX9_count_112 rfl (lv_at hl 0 rfl) ?_
    refine va_get (D := G.1) (ci := 9) (v := .int x_known) (C := RX9) (T := TX9) (N := 19) hx hb hts hiX9 hown hK hP 0 rfl rfl 8 (by decide) (hts (.fieldLink RX9 99 "LodgingNamesModel" "known" "I") (by decide +kernel)) (fun _ h9 => h9) rfl dX9_count_113 ?_
    exact hret _ _ _ _ _ () rfl dX9_count_116 h hP hD hS
  have h := wp_f h c1_8
  by_cases c1_9 : a1 = 9
  · have h := wp_t h c1_9
    refine lv_tableIn (tgt := 117) hx hb dX9_count_1 (by rw [c1_9] <;> decide) (by rw [c1_9] <;> decide) (by rw [c1_9] <;> rfl) (by decide) ?_
    refine lv_aload_n hx hb dX9_count_117 rfl (lv_at hl 0 rfl) ?_
    refine va_get (D := G.1) (ci := 9) (v := .int x_kept) (C := RX9) (T := TX9) (N := 19) hx hb hts hiX9 hown hK hP 0 rfl rfl 10 (by decide) (hts (.fieldLink RX9 102 "LodgingNamesModel" "kept" "I") (by decide +kernel)) (fun _ h9 => h9) rfl dX9_count_118 ?_
    exact hret _ _ _ _ _ () rfl dX9_count_121 h hP hD hS
  have h := wp_f h c1_9
  by_cases c1_10 : a1 = 10
  · have h := wp_t h c1_10
    refine lv_tableIn (tgt := 122) hx hb dX9_count_1 (by rw [c1_10] <;> decide) (by rw [c1_10] <;> decide) (by rw [c1_10] <;> rfl) (by decide) ?_
    refine lv_aload_n hx hb dX9_count_122 rfl (lv_at hl 0 rfl) ?_
    refine va_get (D := G.1) (ci := 9) (v := .int x_typed) (C := RX9) (T := TX9) (N := 19) hx hb hts hiX9 hown hK hP 0 rfl rfl 1 (by decide) (hts (.fieldLink RX9 71 "LodgingNamesModel" "typed" "I") (by decide +kernel)) (fun _ h9 => h9) rfl dX9_count_123 ?_
    exact hret _ _ _ _ _ () rfl dX9_count_126 h hP hD hS
  have h := wp_f h c1_10
  have n1_0 : ¬ (0 : Int) = (a1).toInt := fun q => c1_0 (Int32.toInt_inj.mp (q.symm.trans rfl))
  have n1_1 : ¬ (1 : Int) = (a1).toInt := fun q => c1_1 (Int32.toInt_inj.mp (q.symm.trans rfl))
  have n1_2 : ¬ (2 : Int) = (a1).toInt := fun q => c1_2 (Int32.toInt_inj.mp (q.symm.trans rfl))
  have n1_3 : ¬ (3 : Int) = (a1).toInt := fun q => c1_3 (Int32.toInt_inj.mp (q.symm.trans rfl))
  have n1_4 : ¬ (4 : Int) = (a1).toInt := fun q => c1_4 (Int32.toInt_inj.mp (q.symm.trans rfl))
  have n1_5 : ¬ (5 : Int) = (a1).toInt := fun q => c1_5 (Int32.toInt_inj.mp (q.symm.trans rfl))
  have n1_6 : ¬ (6 : Int) = (a1).toInt := fun q => c1_6 (Int32.toInt_inj.mp (q.symm.trans rfl))
  have n1_7 : ¬ (7 : Int) = (a1).toInt := fun q => c1_7 (Int32.toInt_inj.mp (q.symm.trans rfl))
  have n1_8 : ¬ (8 : Int) = (a1).toInt := fun q => c1_8 (Int32.toInt_inj.mp (q.symm.trans rfl))
  have n1_9 : ¬ (9 : Int) = (a1).toInt := fun q => c1_9 (Int32.toInt_inj.mp (q.symm.trans rfl))
  have n1_10 : ¬ (10 : Int) = (a1).toInt := fun q => c1_10 (Int32.toInt_inj.mp (q.symm.trans rfl))
  refine lv_tableOut (tgt := 127) hx hb dX9_count_1 (by omega) (by decide) ?_
  refine lv_iconst (v := (-1)) hx hb dX9_count_127 (by decide) ?_
  exact hret _ _ _ _ _ () rfl dX9_count_128 h hP hD hS

