abbrev rmX9_lay : Room := { frames := 5, cells := 0, slots := 0, locals := 112 }
set_option maxHeartbeats 4000000 in
set_option maxRecDepth 100000 in
theorem MX9_lay (l : Launch) (G : kG) (x0 x1 x2 x3 x4 x5 x6 x7 x8 x9 x10 x11 x12 : Nat) (x_typed : Int32) (x_words : Int32) (x_known : Int32) (x_kept : Int32) (x_sights : Int32) (x_at : Int32) (x_without : Int32) (x_text : Nat → Int32) (x_told : Nat → Int32) (x_draft : Nat → Int32) (x_begun : Nat → Int32) (x_s : Nat → Int32) (x_past : Nat → Int32) (x_images : Nat → Int32) (x_seen : Nat → Int32) (x_seenDays : Nat → Int32) (x_held : Nat → Int32) (x_worth : Nat → Int32) (x_spoken : Nat → Int32) {K : Int32 → Int32 → Int32 → Int32 → Int32 → Int32 → (Nat → Int32) → (Nat → Int32) → (Nat → Int32) → (Nat → Int32) → Prop} (h : wpX9_lay x_typed x_known x_kept x_sights x_text x_told x_draft x_begun x_s K) : kI l G yX9_lay wsX9_lay rmX9_lay [.ref x0] [(x0, .inr (9, [.ref x1, .int x_typed, .ref x2, .ref x3, .ref x4, .int x_words, .ref x5, .ref x6, .int x_known, .ref x7, .int x_kept, .ref x8, .ref x9, .int x_sights, .int x_at, .int x_without, .ref x10, .ref x11, .ref x12])), (x1, .inl (G.2.1, 200, .inl x_text)), (x2, .inl (G.2.1, 37, .inl x_told)), (x3, .inl (G.2.1, 37, .inl x_draft)), (x4, .inl (G.2.1, 36, .inl x_begun)), (x5, .inl (G.2.1, 86, .inl x_s)), (x6, .inl (G.2.1, 688, .inl x_past)), (x7, .inl (G.2.1, 172, .inl x_images)), (x8, .inl (G.2.1, 6, .inl x_seen)), (x9, .inl (G.2.1, 6, .inl x_seenDays)), (x10, .inl (G.2.1, 86, .inl x_held)), (x11, .inl (G.2.1, 81, .inl x_worth)), (x12, .inl (G.2.1, 48, .inl x_spoken))] (S := (Int32) × (Int32) × (Int32) × (Int32) × (Int32) × (Nat → Int32) × (Nat → Int32) × (Nat → Int32) × (Nat → Int32)) (fun u => [(x0, .inr (9, [.ref x1, .int x_typed, .ref x2, .ref x3, .ref x4, .int u.1, .ref x5, .ref x6, .int u.2.1, .ref x7, .int u.2.2.1, .ref x8, .ref x9, .int u.2.2.2.1, .int u.2.2.2.2.1, .int x_without, .ref x10, .ref x11, .ref x12])), (x1, .inl (G.2.1, 200, .inl x_text)), (x2, .inl (G.2.1, 37, .inl u.2.2.2.2.2.1)), (x3, .inl (G.2.1, 37, .inl u.2.2.2.2.2.2.1)), (x4, .inl (G.2.1, 36, .inl u.2.2.2.2.2.2.2.1)), (x5, .inl (G.2.1, 86, .inl u.2.2.2.2.2.2.2.2)), (x6, .inl (G.2.1, 688, .inl x_past)), (x7, .inl (G.2.1, 172, .inl x_images)), (x8, .inl (G.2.1, 6, .inl x_seen)), (x9, .inl (G.2.1, 6, .inl x_seenDays)), (x10, .inl (G.2.1, 86, .inl x_held)), (x11, .inl (G.2.1, 81, .inl x_worth)), (x12, .inl (G.2.1, 48, .inl x_spoken))]) (fun r u => K r u.1 u.2.1 u.2.2.1 u.2.2.2.1 u.2.2.2.2.1 u.2.2.2.2.2.1 u.2.2.2.2.2.2.1 u.2.2.2.2.2.2.2.1 u.2.2.2.2.2.2.2.2) 0 0 := by
  refine kI_of (cc := cX9_lay) (maxL := 1) (ret := .int) (by decide) rfl (Nat.le_of_ble_eq_true rfl) ?_
  intro p e s m below meth c Q A ls Fx hK hN hA hnm hret hP hD hl hS
  obtain ⟨hx, hb, hml, hown, hts⟩ := id Fx
  have hown : s.vm.findClass RX9 = some m.cls := hown
  have hl : lv_has ls 1 [(0, .ref x0)] := hl
  have hiX9 : ∀ w ∈ u_ws RX9 TX9 19, w ∈ wsX9_lay := by decide +kernel
  unfold wpX9_lay at h
  refine lv_aload_n hx hb dX9_lay_0 rfl (lv_at hl 0 rfl) ?_
  refine kc_i (Wr := []) (va_runV (As := []) (rest := []) Fx (MX9_readsAll l G x0 x1 x2 x3 x4 x5 x6 x7 x8 x9 x10 x11 x12 x_typed x_words x_known x_kept x_sights x_at x_without x_text x_told x_draft x_begun x_s x_past x_images x_seen x_seenDays x_held x_worth x_spoken h s.heap.size) (cwV 0 hts gX9_lay_X9_readsAll rfl rfl rfl (by decide +kernel) ⟨Nat.le_of_ble_eq_true rfl, Nat.le_of_ble_eq_true rfl⟩) (kpreV hP hD hK hN [0, 1, 2, 3, 4, 5, 6, 7, 8, 9, 10, 11, 12] rfl rfl 0 rfl rfl) rfl rfl hl.1 rfl (lv_room (Nat.le_of_ble_eq_true rfl)) dX9_lay_1 ⟨Nat.le_of_ble_eq_true rfl, Nat.le_of_ble_eq_true rfl⟩) hP hD hS hA [0, 1, 2, 3, 4, 5, 6, 7, 8, 9, 10, 11, 12] [] rfl rfl rfl (by decide +kernel) (fun r_1 u H locs h hP hD hS => ?_)
  obtain ⟨x_words_2, x_at_3, x_draft_4, x_begun_5⟩ := u
  have hP : va_P G.1 vwCl [(x0, .inr (9, [.ref x1, .int x_typed, .ref x2, .ref x3, .ref x4, .int x_words_2, .ref x5, .ref x6, .int x_known, .ref x7, .int x_kept, .ref x8, .ref x9, .int x_sights, .int x_at_3, .int x_without, .ref x10, .ref x11, .ref x12])), (x1, .inl (G.2.1, 200, .inl x_text)), (x2, .inl (G.2.1, 37, .inl x_told)), (x3, .inl (G.2.1, 37, .inl x_draft_4)), (x4, .inl (G.2.1, 36, .inl x_begun_5)), (x5, .inl (G.2.1, 86, .inl x_s)), (x6, .inl (G.2.1, 688, .inl x_past)), (x7, .inl (G.2.1, 172, .inl x_images)), (x8, .inl (G.2.1, 6, .inl x_seen)), (x9, .inl (G.2.1, 6, .inl x_seenDays)), (x10, .inl (G.2.1, 86, .inl x_held)), (x11, .inl (G.2.1, 81, .inl x_worth)), (x12, .inl (G.2.1, 48, .inl x_spoken))] H := hP
  have hD : va_D A [(x0, .inr (9, [.ref x1, .int x_typed, .ref x2, .ref x3, .ref x4, .int x_words_2, .ref x5, .ref x6, .int x_known, .ref x7, .int x_kept, .ref x8, .ref x9, .int x_sights, .int x_at_3, .int x_without, .ref x10, .ref x11, .ref x12])), (x1, .inl (G.2.1, 200, .inl x_text)), (x2, .inl (G.2.1, 37, .inl x_told)), (x3, .inl (G.2.1, 37, .inl x_draft_4)), (x4, .inl (G.2.1, 36, .inl x_begun_5)), (x5, .inl (G.2.1, 86, .inl x_s)), (x6, .inl (G.2.1, 688, .inl x_past)), (x7, .inl (G.2.1, 172, .inl x_images)), (x8, .inl (G.2.1, 6, .inl x_seen)), (x9, .inl (G.2.1, 6, .inl x_seenDays)), (x10, .inl (G.2.1, 86, .inl x_held)), (x11, .inl (G.2.1, 81, .inl x_worth)), (x12, .inl (G.2.1, 48, .inl x_spoken))] := hD
  refine lv_bipush (v := (-4)) hx hb dX9_lay_4 (by decide) ?_
  have h := h (∀ (H : Heap) (locs : List Loc) (ls : Array Slot), va_P G.1 vwCl [(x0, .inr (9, [.ref x1, .int x_typed, .ref x2, .ref x3, .ref x4, .int x_words_2, .ref x5, .ref x6, .int x_known, .ref x7, .int x_kept, .ref x8, .ref x9, .int x_sights, .int x_at_3, .int x_without, .ref x10, .ref x11, .ref x12])), (x1, .inl (G.2.1, 200, .inl x_text)), (x2, .inl (G.2.1, 37, .inl x_told)), (x3, .inl (G.2.1, 37, .inl x_draft_4)), (x4, .inl (G.2.1, 36, .inl x_begun_5)), (x5, .inl (G.2.1, 86, .inl x_s)), (x6, .inl (G.2.1, 688, .inl x_past)), (x7, .inl (G.2.1, 172, .inl x_images)), (x8, .inl (G.2.1, 6, .inl x_seen)), (x9, .inl (G.2.1, 6, .inl x_seenDays)), (x10, .inl (G.2.1, 86, .inl x_held)), (x11, .inl (G.2.1, 81, .inl x_worth)), (x12, .inl (G.2.1, 48, .inl x_spoken))] H → va_D A [(x0, .inr (9, [.ref x1, .int x_typed, .ref x2, .ref x3, .ref x4, .int x_words_2, .ref x5, .ref x6, .int x_known, .ref x7, .int x_kept, .ref x8, .ref x9, .int x_sights, .int x_at_3, .int x_without, .ref x10, .ref x11, .ref x12])), (x1, .inl (G.2.1, 200, .inl x_text)), (x2, .inl (G.2.1, 37, .inl x_told)), (x3, .inl (G.2.1, 37, .inl x_draft_4)), (x4, .inl (G.2.1, 36, .inl x_begun_5)), (x5, .inl (G.2.1, 86, .inl x_s)), (x6, .inl (G.2.1, 688, .inl x_past)), (x7, .inl (G.2.1, 172, .inl x_images)), (x8, .inl (G.2.1, 6, .inl x_seen)), (x9, .inl (G.2.1, 6, .inl x_seenDays)), (x10, .inl (G.2.1, 86, .inl x_held)), (x11, .inl (G.2.1, 81, .inl x_worth)), (x12, .inl (G.2.1, 48, .inl x_spoken))] → va_S A s.heap H locs → lv_has ls 1 [] → W p l e rmX9_lay s m [.ref x0].toArray below meth c H locs 0 0 Q (F0 m 27 ls []))
  have h := h (fun  h H locs ls hP hD hS hl => by
    refine lv_bipush (v := (-2)) hx hb dX9_lay_27 (by decide) ?_
    exact hret _ _ _ _ _ (x_words_2, x_known, x_kept, x_sights, x_at_3, x_told, x_draft_4, x_begun_5, x_s) rfl dX9_lay_29 h hP hD hS)
  refine lv_icmp_ne (tgt := 27) hx hb dX9_lay_6 (by decide) (fun hc => ?_) (fun hc => ?_)
  · have h := wp_f h hc
    exact h _ _ _ hP hD hS (lv_sub hl [] rfl)
  · have h := wp_t h hc
    refine lv_aload_n hx hb dX9_lay_9 rfl (lv_at hl 0 rfl) ?_
    refine va_get (D := G.1) (ci := 9) (v := .ref x3) (C := RX9) (T := TX9) (N := 19) hx hb hts hiX9 hown hK hP 0 rfl rfl 3 (by decide) (hts (.fieldLink RX9 16 "LodgingNamesModel" "draft" "[I") (by decide +kernel)) (fun _ h9 => h9) rfl dX9_lay_10 ?_
    refine lv_iconst (v := 0) hx hb dX9_lay_13 (by decide) ?_
    obtain ⟨hin, h⟩ := h
    refine va_iald hx hb hK hP 3 0 rfl rfl hin dX9_lay_14 ?_
    refine lv_if_eq (tgt := 27) hx hb dX9_lay_15 (by decide) (fun hc => ?_) (fun hc => ?_)
    · have h := wp_t h hc
      exact h _ _ _ hP hD hS (lv_sub hl [] rfl)
    · have h := wp_f h hc
      refine lv_aload_n hx hb dX9_lay_18 rfl (lv_at hl 0 rfl) ?_
      refine va_get (D := G.1) (ci := 9) (v := .ref x3) (C := RX9) (T := TX9) (N := 19) hx hb hts hiX9 hown hK hP 0 rfl rfl 3 (by decide) (hts (.fieldLink RX9 16 "LodgingNamesModel" "draft" "[I") (by decide +kernel)) (fun _ h9 => h9) rfl dX9_lay_19 ?_
      refine lv_iconst (v := 1) hx hb dX9_lay_22 (by decide) ?_
      obtain ⟨hin, h⟩ := h
      refine va_iald hx hb hK hP 3 0 rfl rfl hin dX9_lay_23 ?_
      refine lv_if_ne (tgt := 30) hx hb dX9_lay_24 (by decide) (fun hc => ?_) (fun hc => ?_)
      · have h := wp_f h hc
        refine lv_aload_n hx hb dX9_lay_30 rfl (lv_at hl 0 rfl) ?_
        refine kc_v (Wr := []) (va_runV (As := []) (rest := []) Fx (MX9_lays l G x0 x1 x2 x3 x4 x5 x6 x7 x8 x9 x10 x11 x12 x_typed x_words_2 x_known x_kept x_sights x_at_3 x_without x_text x_told x_draft_4 x_begun_5 x_s x_past x_images x_seen x_seenDays x_held x_worth x_spoken h H.size) (cwV 0 hts gX9_lay_X9_lays rfl rfl rfl (by decide +kernel) ⟨Nat.le_of_ble_eq_true rfl, Nat.le_of_ble_eq_true rfl⟩) (kpreV hP hD hK hN [0, 1, 2, 3, 4, 5, 6, 7, 8, 9, 10, 11, 12] rfl rfl 0 rfl rfl) rfl rfl hl.1 rfl (lv_room (Nat.le_of_ble_eq_true rfl)) dX9_lay_31 ⟨Nat.le_of_ble_eq_true rfl, Nat.le_of_ble_eq_true rfl⟩) hP hD hS hA [0, 1, 2, 3, 4, 5, 6, 7, 8, 9, 10, 11, 12] [] rfl rfl rfl (by decide +kernel) (fun u H locs h hP hD hS => ?_)
        obtain ⟨x_known_6, x_kept_7, x_sights_8, x_told_9, x_s_10⟩ := u
        have hP : va_P G.1 vwCl [(x0, .inr (9, [.ref x1, .int x_typed, .ref x2, .ref x3, .ref x4, .int x_words_2, .ref x5, .ref x6, .int x_known_6, .ref x7, .int x_kept_7, .ref x8, .ref x9, .int x_sights_8, .int x_at_3, .int x_without, .ref x10, .ref x11, .ref x12])), (x1, .inl (G.2.1, 200, .inl x_text)), (x2, .inl (G.2.1, 37, .inl x_told_9)), (x3, .inl (G.2.1, 37, .inl x_draft_4)), (x4, .inl (G.2.1, 36, .inl x_begun_5)), (x5, .inl (G.2.1, 86, .inl x_s_10)), (x6, .inl (G.2.1, 688, .inl x_past)), (x7, .inl (G.2.1, 172, .inl x_images)), (x8, .inl (G.2.1, 6, .inl x_seen)), (x9, .inl (G.2.1, 6, .inl x_seenDays)), (x10, .inl (G.2.1, 86, .inl x_held)), (x11, .inl (G.2.1, 81, .inl x_worth)), (x12, .inl (G.2.1, 48, .inl x_spoken))] H := hP
        have hD : va_D A [(x0, .inr (9, [.ref x1, .int x_typed, .ref x2, .ref x3, .ref x4, .int x_words_2, .ref x5, .ref x6, .int x_known_6, .ref x7, .int x_kept_7, .ref x8, .ref x9, .int x_sights_8, .int x_at_3, .int x_without, .ref x10, .ref x11, .ref x12])), (x1, .inl (G.2.1, 200, .inl x_text)), (x2, .inl (G.2.1, 37, .inl x_told_9)), (x3, .inl (G.2.1, 37, .inl x_draft_4)), (x4, .inl (G.2.1, 36, .inl x_begun_5)), (x5, .inl (G.2.1, 86, .inl x_s_10)), (x6, .inl (G.2.1, 688, .inl x_past)), (x7, .inl (G.2.1, 172, .inl x_images)), (x8, .inl (G.2.1, 6, .inl x_seen)), (x9, .inl (G.2.1, 6, .inl x_seenDays)), (x10, .inl (G.2.1, 86, .inl x_held)), (x11, .inl (G.2.1, 81, .inl x_worth)), (x12, .inl (G.2.1, 48, .inl x_spoken))] := hD
        refine lv_aload_n hx hb dX9_lay_34 rfl (lv_at hl 0 rfl) ?_
        refine va_get (D := G.1) (ci := 9) (v := .ref x2) (C := RX9) (T := TX9) (N := 19) hx hb hts hiX9 hown hK hP 0 rfl rfl 2 (by decide) (hts (.fieldLink RX9 13 "LodgingNamesModel" "told" "[I") (by decide +kernel)) (fun _ h9 => h9) rfl dX9_lay_35 ?_
        refine lv_iconst (v := 0) hx hb dX9_lay_38 (by decide) ?_
        obtain ⟨hin, h⟩ := h
        refine va_iald hx hb hK hP 2 0 rfl rfl hin dX9_lay_39 ?_
        exact hret _ _ _ _ _ (x_words_2, x_known_6, x_kept_7, x_sights_8, x_at_3, x_told_9, x_draft_4, x_begun_5, x_s_10) rfl dX9_lay_40 h hP hD hS
      · have h := wp_t h hc
        exact h _ _ _ hP hD hS (lv_sub hl [] rfl)

abbrev rmX9_lodgers : Room := { frames := 0, cells := 0, slots := 0, locals := 0 }
set_option maxHeartbeats 4000000 in
set_option maxRecDepth 100000 in
theorem MX9_lodgers (l : Launch) (G : kG) (x0 x1 x2 x3 x4 x5 x6 x7 x8 x9 x10 x11 x12 : Nat) (x_typed : Int32) (x_words : Int32) (x_known : Int32) (x_kept : Int32) (x_sights : Int32) (x_at : Int32) (x_without : Int32) (x_text : Nat → Int32) (x_told : Nat → Int32) (x_draft : Nat → Int32) (x_begun : Nat → Int32) (x_s : Nat → Int32) (x_past : Nat → Int32) (x_images : Nat → Int32) (x_seen : Nat → Int32) (x_seenDays : Nat → Int32) (x_held : Nat → Int32) (x_worth : Nat → Int32) (x_spoken : Nat → Int32) (a1 : Int32) {K : Int32 → Prop} (h : wpX9_lodgers x_s a1 K) : kI l G yX9_lodgers wsX9_lodgers rmX9_lodgers [.ref x0, .int a1] [(x0, .inr (9, [.ref x1, .int x_typed, .ref x2, .ref x3, .ref x4, .int x_words, .ref x5, .ref x6, .int x_known, .ref x7, .int x_kept, .ref x8, .ref x9, .int x_sights, .int x_at, .int x_without, .ref x10, .ref x11, .ref x12])), (x1, .inl (G.2.1, 200, .inl x_text)), (x2, .inl (G.2.1, 37, .inl x_told)), (x3, .inl (G.2.1, 37, .inl x_draft)), (x4, .inl (G.2.1, 36, .inl x_begun)), (x5, .inl (G.2.1, 86, .inl x_s)), (x6, .inl (G.2.1, 688, .inl x_past)), (x7, .inl (G.2.1, 172, .inl x_images)), (x8, .inl (G.2.1, 6, .inl x_seen)), (x9, .inl (G.2.1, 6, .inl x_seenDays)), (x10, .inl (G.2.1, 86, .inl x_held)), (x11, .inl (G.2.1, 81, .inl x_worth)), (x12, .inl (G.2.1, 48, .inl x_spoken))] (S := Unit) (fun _ => [(x0, .inr (9, [.ref x1, .int x_typed, .ref x2, .ref x3, .ref x4, .int x_words, .ref x5, .ref x6, .int x_known, .ref x7, .int x_kept, .ref x8, .ref x9, .int x_sights, .int x_at, .int x_without, .ref x10, .ref x11, .ref x12])), (x1, .inl (G.2.1, 200, .inl x_text)), (x2, .inl (G.2.1, 37, .inl x_told)), (x3, .inl (G.2.1, 37, .inl x_draft)), (x4, .inl (G.2.1, 36, .inl x_begun)), (x5, .inl (G.2.1, 86, .inl x_s)), (x6, .inl (G.2.1, 688, .inl x_past)), (x7, .inl (G.2.1, 172, .inl x_images)), (x8, .inl (G.2.1, 6, .inl x_seen)), (x9, .inl (G.2.1, 6, .inl x_seenDays)), (x10, .inl (G.2.1, 86, .inl x_held)), (x11, .inl (G.2.1, 81, .inl x_worth)), (x12, .inl (G.2.1, 48, .inl x_spoken))]) (fun r u => K r) 0 0 := by
  refine kI_of (cc := cX9_lodgers) (maxL := 4) (ret := .int) (by decide) rfl (Nat.le_of_ble_eq_true rfl) ?_
  intro p e s m below meth c Q A ls Fx hK hN hA hnm hret hP hD hl hS
  obtain ⟨hx, hb, hml, hown, hts⟩ := id Fx
  have hown : s.vm.findClass RX9 = some m.cls := hown
  have hl : lv_has ls 4 [(0, .ref x0), (1, .int a1)] := hl
  have hiX9 : ∀ w ∈ u_ws RX9 TX9 19, w ∈ wsX9_lodgers := by decide +kernel
  unfold wpX9_lodgers at h
  refine lv_iconst (v := 0) hx hb dX9_lodgers_0 (by decide) ?_
  refine lv_istore_n (lv' := [(2, .int 0), (0, .ref x0), (1, .int a1)]) hx hb dX9_lodgers_1 rfl hl (by decide) rfl (fun ls hl => ?_)
  refine lv_iconst (v := 0) hx hb dX9_lodgers_2 (by decide) ?_
  refine lv_istore_n (lv' := [(3, .int 0), (2, .int 0), (0, .ref x0), (1, .int a1)]) hx hb dX9_lodgers_3 rfl hl (by decide) rfl (fun ls hl => ?_)
  have h := h (fun (v_1 : Int32) (v_2 : Int32) => ∀ (H : Heap) (locs : List Loc) (ls : Array Slot), va_P G.1 vwCl [(x0, .inr (9, [.ref x1, .int x_typed, .ref x2, .ref x3, .ref x4, .int x_words, .ref x5, .ref x6, .int x_known, .ref x7, .int x_kept, .ref x8, .ref x9, .int x_sights, .int x_at, .int x_without, .ref x10, .ref x11, .ref x12])), (x1, .inl (G.2.1, 200, .inl x_text)), (x2, .inl (G.2.1, 37, .inl x_told)), (x3, .inl (G.2.1, 37, .inl x_draft)), (x4, .inl (G.2.1, 36, .inl x_begun)), (x5, .inl (G.2.1, 86, .inl x_s)), (x6, .inl (G.2.1, 688, .inl x_past)), (x7, .inl (G.2.1, 172, .inl x_images)), (x8, .inl (G.2.1, 6, .inl x_seen)), (x9, .inl (G.2.1, 6, .inl x_seenDays)), (x10, .inl (G.2.1, 86, .inl x_held)), (x11, .inl (G.2.1, 81, .inl x_worth)), (x12, .inl (G.2.1, 48, .inl x_spoken))] H → va_D A [(x0, .inr (9, [.ref x1, .int x_typed, .ref x2, .ref x3, .ref x4, .int x_words, .ref x5, .ref x6, .int x_known, .ref x7, .int x_kept, .ref x8, .ref x9, .int x_sights, .int x_at, .int x_without, .ref x10, .ref x11, .ref x12])), (x1, .inl (G.2.1, 200, .inl x_text)), (x2, .inl (G.2.1, 37, .inl x_told)), (x3, .inl (G.2.1, 37, .inl x_draft)), (x4, .inl (G.2.1, 36, .inl x_begun)), (x5, .inl (G.2.1, 86, .inl x_s)), (x6, .inl (G.2.1, 688, .inl x_past)), (x7, .inl (G.2.1, 172, .inl x_images)), (x8, .inl (G.2.1, 6, .inl x_seen)), (x9, .inl (G.2.1, 6, .inl x_seenDays)), (x10, .inl (G.2.1, 86, .inl x_held)), (x11, .inl (G.2.1, 81, .inl x_worth)), (x12, .inl (G.2.1, 48, .inl x_spoken))] → va_S A s.heap H locs → lv_has ls 4 [(0, .ref x0), (1, .int a1), (2, .int v_1), (3, .int v_2)] → W p l e rmX9_lodgers s m [.ref x0, .int a1].toArray below meth c H locs 0 0 Q (F0 m 4 ls []))
  have h := h (fun v_1 v_2 h H locs ls hP hD hS hl => by
    refine lv_iload_n hx hb dX9_lodgers_4 rfl (lv_at hl 3 rfl) ?_
    refine lv_bipush (v := 8) hx hb dX9_lodgers_5 (by decide) ?_
    refine lv_icmp_ge (tgt := 40) hx hb dX9_lodgers_7 (by decide) (fun hc => ?_) (fun hc => ?_)
    · have h := wp_t h hc
      refine lv_iload_n hx hb dX9_lodgers_40 rfl (lv_at hl 2 rfl) ?_
      exact hret _ _ _ _ _ () rfl dX9_lodgers_41 h hP hD hS
    · have h := wp_f h hc
      refine lv_iload_n hx hb dX9_lodgers_10 rfl (lv_at hl 2 rfl) ?_
      refine lv_aload_n hx hb dX9_lodgers_11 rfl (lv_at hl 0 rfl) ?_
      refine va_get (D := G.1) (ci := 9) (v := .ref x5) (C := RX9) (T := TX9) (N := 19) hx hb hts hiX9 hown hK hP 0 rfl rfl 6 (by decide) (hts (.fieldLink RX9 22 "LodgingNamesModel" "s" "[I") (by decide +kernel)) (fun _ h9 => h9) rfl dX9_lodgers_12 ?_
      refine lv_bipush (v := 8) hx hb dX9_lodgers_15 (by decide) ?_
      refine lv_iload_n hx hb dX9_lodgers_17 rfl (lv_at hl 1 rfl) ?_
      refine lv_imul hx hb dX9_lodgers_18 ?_
      refine lv_iload_n hx hb dX9_lodgers_19 rfl (lv_at hl 3 rfl) ?_
      refine lv_iadd hx hb dX9_lodgers_20 ?_
      obtain ⟨hin, h⟩ := h
      refine va_iald hx hb hK hP 5 0 rfl rfl hin dX9_lodgers_21 ?_
      have h := h (fun (v_3 : Int32) => ∀ (H : Heap) (locs : List Loc) (ls : Array Slot), va_P G.1 vwCl [(x0, .inr (9, [.ref x1, .int x_typed, .ref x2, .ref x3, .ref x4, .int x_words, .ref x5, .ref x6, .int x_known, .ref x7, .int x_kept, .ref x8, .ref x9, .int x_sights, .int x_at, .int x_without, .ref x10, .ref x11, .ref x12])), (x1, .inl (G.2.1, 200, .inl x_text)), (x2, .inl (G.2.1, 37, .inl x_told)), (x3, .inl (G.2.1, 37, .inl x_draft)), (x4, .inl (G.2.1, 36, .inl x_begun)), (x5, .inl (G.2.1, 86, .inl x_s)), (x6, .inl (G.2.1, 688, .inl x_past)), (x7, .inl (G.2.1, 172, .inl x_images)), (x8, .inl (G.2.1, 6, .inl x_seen)), (x9, .inl (G.2.1, 6, .inl x_seenDays)), (x10, .inl (G.2.1, 86, .inl x_held)), (x11, .inl (G.2.1, 81, .inl x_worth)), (x12, .inl (G.2.1, 48, .inl x_spoken))] H → va_D A [(x0, .inr (9, [.ref x1, .int x_typed, .ref x2, .ref x3, .ref x4, .int x_words, .ref x5, .ref x6, .int x_known, .ref x7, .int x_kept, .ref x8, .ref x9, .int x_sights, .int x_at, .int x_without, .ref x10, .ref x11, .ref x12])), (x1, .inl (G.2.1, 200, .inl x_text)), (x2, .inl (G.2.1, 37, .inl x_told)), (x3, .inl (G.2.1, 37, .inl x_draft)), (x4, .inl (G.2.1, 36, .inl x_begun)), (x5, .inl (G.2.1, 86, .inl x_s)), (x6, .inl (G.2.1, 688, .inl x_past)), (x7, .inl (G.2.1, 172, .inl x_images)), (x8, .inl (G.2.1, 6, .inl x_seen)), (x9, .inl (G.2.1, 6, .inl x_seenDays)), (x10, .inl (G.2.1, 86, .inl x_held)), (x11, .inl (G.2.1, 81, .inl x_worth)), (x12, .inl (G.2.1, 48, .inl x_spoken))] → va_S A s.heap H locs → lv_has ls 4 [(0, .ref x0), (1, .int a1), (3, .int v_2)] → W p l e rmX9_lodgers s m [.ref x0, .int a1].toArray below meth c H locs 0 0 Q (F0 m 32 ls [.int v_3, .int v_1]))
      have h := h (fun v_3 h H locs ls hP hD hS hl => by
        refine lv_ior hx hb dX9_lodgers_32 ?_
        refine lv_topi (fun x_4 ex_4 => ?_)
        have h := h x_4 ex_4
        refine lv_istore_n (lv' := [(2, .int x_4), (0, .ref x0), (1, .int a1), (3, .int v_2)]) hx hb dX9_lodgers_33 rfl hl (by decide) rfl (fun ls hl => ?_)
        refine lv_iinc (v := (v_2 + 1)) (lv' := [(3, .int (v_2 + 1)), (2, .int x_4), (0, .ref x0), (1, .int a1)]) hx hb dX9_lodgers_34 hl (k := 3) rfl rfl (by decide) rfl (fun ls hl => ?_)
        refine lv_goto (tgt := 4) hx hb dX9_lodgers_37 (by decide) ?_
        exact h _ _ _ hP hD hS (lv_sub hl [2, 3, 1, 0] rfl))
      refine lv_if_le (tgt := 31) hx hb dX9_lodgers_22 (by decide) (fun hc => ?_) (fun hc => ?_)
      · have h := wp_t h hc
        refine lv_iconst (v := 0) hx hb dX9_lodgers_31 (by decide) ?_
        exact h _ _ _ hP hD hS (lv_sub hl [0, 1, 3] rfl)
      · have h := wp_f h hc
        refine lv_iconst (v := 1) hx hb dX9_lodgers_25 (by decide) ?_
        refine lv_iload_n hx hb dX9_lodgers_26 rfl (lv_at hl 3 rfl) ?_
        refine lv_ishl hx hb dX9_lodgers_27 ?_
        refine lv_goto (tgt := 32) hx hb dX9_lodgers_28 (by decide) ?_
        exact h _ _ _ hP hD hS (lv_sub hl [0, 1, 3] rfl))
  exact h _ _ _ hP hD hS (lv_sub hl [2, 3, 1, 0] rfl)

abbrev rmX9_sumOf : Room := { frames := 0, cells := 0, slots := 0, locals := 0 }
set_option maxHeartbeats 4000000 in
set_option maxRecDepth 100000 in
theorem MX9_sumOf (l : Launch) (G : kG) (x0 x1 x2 x3 x4 x5 x6 x7 x8 x9 x10 x11 x12 : Nat) (x_typed : Int32) (x_words : Int32) (x_known : Int32) (x_kept : Int32) (x_sights : Int32) (x_at : Int32) (x_without : Int32) (x_text : Nat → Int32) (x_told : Nat → Int32) (x_draft : Nat → Int32) (x_begun : Nat → Int32) (x_s : Nat → Int32) (x_past : Nat → Int32) (x_images : Nat → Int32) (x_seen : Nat → Int32) (x_seenDays : Nat → Int32) (x_held : Nat → Int32) (x_worth : Nat → Int32) (x_spoken : Nat → Int32) (a1 : Int32) (a2 : Int32) {K : Int32 → Prop} (h : wpX9_sumOf x_told x_s a1 a2 K) : kI l G yX9_sumOf wsX9_sumOf rmX9_sumOf [.ref x0, .int a1, .int a2] [(x0, .inr (9, [.ref x1, .int x_typed, .ref x2, .ref x3, .ref x4, .int x_words, .ref x5, .ref x6, .int x_known, .ref x7, .int x_kept, .ref x8, .ref x9, .int x_sights, .int x_at, .int x_without, .ref x10, .ref x11, .ref x12])), (x1, .inl (G.2.1, 200, .inl x_text)), (x2, .inl (G.2.1, 37, .inl x_told)), (x3, .inl (G.2.1, 37, .inl x_draft)), (x4, .inl (G.2.1, 36, .inl x_begun)), (x5, .inl (G.2.1, 86, .inl x_s)), (x6, .inl (G.2.1, 688, .inl x_past)), (x7, .inl (G.2.1, 172, .inl x_images)), (x8, .inl (G.2.1, 6, .inl x_seen)), (x9, .inl (G.2.1, 6, .inl x_seenDays)), (x10, .inl (G.2.1, 86, .inl x_held)), (x11, .inl (G.2.1, 81, .inl x_worth)), (x12, .inl (G.2.1, 48, .inl x_spoken))] (S := Unit) (fun _ => [(x0, .inr (9, [.ref x1, .int x_typed, .ref x2, .ref x3, .ref x4, .int x_words, .ref x5, .ref x6, .int x_known, .ref x7, .int x_kept, .ref x8, .ref x9, .int x_sights, .int x_at, .int x_without, .ref x10, .ref x11, .ref x12])), (x1, .inl (G.2.1, 200, .inl x_text)), (x2, .inl (G.2.1, 37, .inl x_told)), (x3, .inl (G.2.1, 37, .inl x_draft)), (x4, .inl (G.2.1, 36, .inl x_begun)), (x5, .inl (G.2.1, 86, .inl x_s)), (x6, .inl (G.2.1, 688, .inl x_past)), (x7, .inl (G.2.1, 172, .inl x_images)), (x8, .inl (G.2.1, 6, .inl x_seen)), (x9, .inl (G.2.1, 6, .inl x_seenDays)), (x10, .inl (G.2.1, 86, .inl x_held)), (x11, .inl (G.2.1, 81, .inl x_worth)), (x12, .inl (G.2.1, 48, .inl x_spoken))]) (fun r u => K r) 0 0 := by
  refine kI_of (cc := cX9_sumOf) (maxL := 5) (ret := .int) (by decide) rfl (Nat.le_of_ble_eq_true rfl) ?_
  intro p e s m below meth c Q A ls Fx hK hN hA hnm hret hP hD hl hS
  obtain ⟨hx, hb, hml, hown, hts⟩ := id Fx
  have hown : s.vm.findClass RX9 = some m.cls := hown
  have hl : lv_has ls 5 [(0, .ref x0), (1, .int a1), (2, .int a2)] := hl
  have hiX9 : ∀ w ∈ u_ws RX9 TX9 19, w ∈ wsX9_sumOf := by decide +kernel
  unfold wpX9_sumOf at h
  refine lv_iconst (v := 0) hx hb dX9_sumOf_0 (by decide) ?_
  refine lv_istore_n (lv' := [(3, .int 0), (0, .ref x0), (1, .int a1), (2, .int a2)]) hx hb dX9_sumOf_1 rfl hl (by decide) rfl (fun ls hl => ?_)
  refine lv_iconst (v := 0) hx hb dX9_sumOf_2 (by decide) ?_
  refine lv_istore (lv' := [(4, .int 0), (3, .int 0), (0, .ref x0), (1, .int a1), (2, .int a2)]) hx hb dX9_sumOf_3 hl (by decide) rfl (fun ls hl => ?_)
  have h := h (fun (v_1 : Int32) (v_2 : Int32) => ∀ (H : Heap) (locs : List Loc) (ls : Array Slot), va_P G.1 vwCl [(x0, .inr (9, [.ref x1, .int x_typed, .ref x2, .ref x3, .ref x4, .int x_words, .ref x5, .ref x6, .int x_known, .ref x7, .int x_kept, .ref x8, .ref x9, .int x_sights, .int x_at, .int x_without, .ref x10, .ref x11, .ref x12])), (x1, .inl (G.2.1, 200, .inl x_text)), (x2, .inl (G.2.1, 37, .inl x_told)), (x3, .inl (G.2.1, 37, .inl x_draft)), (x4, .inl (G.2.1, 36, .inl x_begun)), (x5, .inl (G.2.1, 86, .inl x_s)), (x6, .inl (G.2.1, 688, .inl x_past)), (x7, .inl (G.2.1, 172, .inl x_images)), (x8, .inl (G.2.1, 6, .inl x_seen)), (x9, .inl (G.2.1, 6, .inl x_seenDays)), (x10, .inl (G.2.1, 86, .inl x_held)), (x11, .inl (G.2.1, 81, .inl x_worth)), (x12, .inl (G.2.1, 48, .inl x_spoken))] H → va_D A [(x0, .inr (9, [.ref x1, .int x_typed, .ref x2, .ref x3, .ref x4, .int x_words, .ref x5, .ref x6, .int x_known, .ref x7, .int x_kept, .ref x8, .ref x9, .int x_sights, .int x_at, .int x_without, .ref x10, .ref x11, .ref x12])), (x1, .inl (G.2.1, 200, .inl x_text)), (x2, .inl (G.2.1, 37, .inl x_told)), (x3, .inl (G.2.1, 37, .inl x_draft)), (x4, .inl (G.2.1, 36, .inl x_begun)), (x5, .inl (G.2.1, 86, .inl x_s)), (x6, .inl (G.2.1, 688, .inl x_past)), (x7, .inl (G.2.1, 172, .inl x_images)), (x8, .inl (G.2.1, 6, .inl x_seen)), (x9, .inl (G.2.1, 6, .inl x_seenDays)), (x10, .inl (G.2.1, 86, .inl x_held)), (x11, .inl (G.2.1, 81, .inl x_worth)), (x12, .inl (G.2.1, 48, .inl x_spoken))] → va_S A s.heap H locs → lv_has ls 5 [(0, .ref x0), (1, .int a1), (2, .int a2), (3, .int v_1), (4, .int v_2)] → W p l e rmX9_sumOf s m [.ref x0, .int a1, .int a2].toArray below meth c H locs 0 0 Q (F0 m 5 ls []))
  have h := h (fun v_1 v_2 h H locs ls hP hD hS hl => by
    refine lv_iload hx hb dX9_sumOf_5 (lv_at hl 4 rfl) ?_
    refine lv_bipush (v := 8) hx hb dX9_sumOf_7 (by decide) ?_
    refine lv_icmp_ge (tgt := 49) hx hb dX9_sumOf_9 (by decide) (fun hc => ?_) (fun hc => ?_)
    · have h := wp_t h hc
      refine lv_iload_n hx hb dX9_sumOf_49 rfl (lv_at hl 3 rfl) ?_
      exact hret _ _ _ _ _ () rfl dX9_sumOf_50 h hP hD hS
    · have h := wp_f h hc
      refine lv_iload_n hx hb dX9_sumOf_12 rfl (lv_at hl 3 rfl) ?_
      refine lv_aload_n hx hb dX9_sumOf_13 rfl (lv_at hl 0 rfl) ?_
      refine va_get (D := G.1) (ci := 9) (v := .ref x5) (C := RX9) (T := TX9) (N := 19) hx hb hts hiX9 hown hK hP 0 rfl rfl 6 (by decide) (hts (.fieldLink RX9 22 "LodgingNamesModel" "s" "[I") (by decide +kernel)) (fun _ h9 => h9) rfl dX9_sumOf_14 ?_
      refine lv_bipush (v := 8) hx hb dX9_sumOf_17 (by decide) ?_
      refine lv_iload_n hx hb dX9_sumOf_19 rfl (lv_at hl 1 rfl) ?_
      refine lv_imul hx hb dX9_sumOf_20 ?_
      refine lv_iload hx hb dX9_sumOf_21 (lv_at hl 4 rfl) ?_
      refine lv_iadd hx hb dX9_sumOf_23 ?_
      obtain ⟨hin, h⟩ := h
      refine va_iald hx hb hK hP 5 0 rfl rfl hin dX9_sumOf_24 ?_
      have h := h (fun (v_3 : Int32) => ∀ (H : Heap) (locs : List Loc) (ls : Array Slot), va_P G.1 vwCl [(x0, .inr (9, [.ref x1, .int x_typed, .ref x2, .ref x3, .ref x4, .int x_words, .ref x5, .ref x6, .int x_known, .ref x7, .int x_kept, .ref x8, .ref x9, .int x_sights, .int x_at, .int x_without, .ref x10, .ref x11, .ref x12])), (x1, .inl (G.2.1, 200, .inl x_text)), (x2, .inl (G.2.1, 37, .inl x_told)), (x3, .inl (G.2.1, 37, .inl x_draft)), (x4, .inl (G.2.1, 36, .inl x_begun)), (x5, .inl (G.2.1, 86, .inl x_s)), (x6, .inl (G.2.1, 688, .inl x_past)), (x7, .inl (G.2.1, 172, .inl x_images)), (x8, .inl (G.2.1, 6, .inl x_seen)), (x9, .inl (G.2.1, 6, .inl x_seenDays)), (x10, .inl (G.2.1, 86, .inl x_held)), (x11, .inl (G.2.1, 81, .inl x_worth)), (x12, .inl (G.2.1, 48, .inl x_spoken))] H → va_D A [(x0, .inr (9, [.ref x1, .int x_typed, .ref x2, .ref x3, .ref x4, .int x_words, .ref x5, .ref x6, .int x_known, .ref x7, .int x_kept, .ref x8, .ref x9, .int x_sights, .int x_at, .int x_without, .ref x10, .ref x11, .ref x12])), (x1, .inl (G.2.1, 200, .inl x_text)), (x2, .inl (G.2.1, 37, .inl x_told)), (x3, .inl (G.2.1, 37, .inl x_draft)), (x4, .inl (G.2.1, 36, .inl x_begun)), (x5, .inl (G.2.1, 86, .inl x_s)), (x6, .inl (G.2.1, 688, .inl x_past)), (x7, .inl (G.2.1, 172, .inl x_images)), (x8, .inl (G.2.1, 6, .inl x_seen)), (x9, .inl (G.2.1, 6, .inl x_seenDays)), (x10, .inl (G.2.1, 86, .inl x_held)), (x11, .inl (G.2.1, 81, .inl x_worth)), (x12, .inl (G.2.1, 48, .inl x_spoken))] → va_S A s.heap H locs → lv_has ls 5 [(0, .ref x0), (1, .int a1), (2, .int a2), (4, .int v_2)] → W p l e rmX9_sumOf s m [.ref x0, .int a1, .int a2].toArray below meth c H locs 0 0 Q (F0 m 41 ls [.int v_3, .int v_1]))
      have h := h (fun v_3 h H locs ls hP hD hS hl => by
        refine lv_iadd hx hb dX9_sumOf_41 ?_
        refine lv_topi (fun x_4 ex_4 => ?_)
        have h := h x_4 ex_4
        refine lv_istore_n (lv' := [(3, .int x_4), (0, .ref x0), (1, .int a1), (2, .int a2), (4, .int v_2)]) hx hb dX9_sumOf_42 rfl hl (by decide) rfl (fun ls hl => ?_)
        refine lv_iinc (v := (v_2 + 1)) (lv' := [(4, .int (v_2 + 1)), (3, .int x_4), (0, .ref x0), (1, .int a1), (2, .int a2)]) hx hb dX9_sumOf_43 hl (k := 4) rfl rfl (by decide) rfl (fun ls hl => ?_)
        refine lv_goto (tgt := 5) hx hb dX9_sumOf_46 (by decide) ?_
        exact h _ _ _ hP hD hS (lv_sub hl [2, 3, 4, 1, 0] rfl))
      refine lv_if_le (tgt := 40) hx hb dX9_sumOf_25 (by decide) (fun hc => ?_) (fun hc => ?_)
      · have h := wp_t h hc
        refine lv_iconst (v := 0) hx hb dX9_sumOf_40 (by decide) ?_
        exact h _ _ _ hP hD hS (lv_sub hl [0, 1, 2, 4] rfl)
      · have h := wp_f h hc
        refine lv_aload_n hx hb dX9_sumOf_28 rfl (lv_at hl 0 rfl) ?_
        refine va_get (D := G.1) (ci := 9) (v := .ref x2) (C := RX9) (T := TX9) (N := 19) hx hb hts hiX9 hown hK hP 0 rfl rfl 2 (by decide) (hts (.fieldLink RX9 13 "LodgingNamesModel" "told" "[I") (by decide +kernel)) (fun _ h9 => h9) rfl dX9_sumOf_29 ?_
        refine lv_iload_n hx hb dX9_sumOf_32 rfl (lv_at hl 2 rfl) ?_
        refine lv_iload hx hb dX9_sumOf_33 (lv_at hl 4 rfl) ?_
        refine lv_iadd hx hb dX9_sumOf_35 ?_
        obtain ⟨hin, h⟩ := h
        refine va_iald hx hb hK hP 2 0 rfl rfl hin dX9_sumOf_36 ?_
        refine lv_goto (tgt := 41) hx hb dX9_sumOf_37 (by decide) ?_
        exact h _ _ _ hP hD hS (lv_sub hl [0, 1, 2, 4] rfl))
  exact h _ _ _ hP hD hS (lv_sub hl [2, 3, 4, 1, 0] rfl)

abbrev rmX9_isHungry : Room := { frames := 1, cells := 0, slots := 0, locals := 24 }
set_option maxHeartbeats 4000000 in
set_option maxRecDepth 100000 in
theorem MX9_isHungry (l : Launch) (G : kG) (x0 x1 x2 x3 x4 x5 x6 x7 x8 x9 x10 x11 x12 : Nat) (x_typed : Int32) (x_words : Int32) (x_known : Int32) (x_kept : Int32) (x_sights : Int32) (x_at : Int32) (x_without : Int32) (x_text : Nat → Int32) (x_told : Nat → Int32) (x_draft : Nat → Int32) (x_begun : Nat → Int32) (x_s : Nat → Int32) (x_past : Nat → Int32) (x_images : Nat → Int32) (x_seen : Nat → Int32) (x_seenDays : Nat → Int32) (x_held : Nat → Int32) (x_worth : Nat → Int32) (x_spoken : Nat → Int32) (a1 : Int32) {K : Int32 → Prop} (h : wpX9_isHungry x_told x_s a1 K) : kI l G yX9_isHungry wsX9_isHungry rmX9_isHungry [.ref x0, .int a1] [(x0, .inr (9, [.ref x1, .int x_typed, .ref x2, .ref x3, .ref x4, .int x_words, .ref x5, .ref x6, .int x_known, .ref x7, .int x_kept, .ref x8, .ref x9, .int x_sights, .int x_at, .int x_without, .ref x10, .ref x11, .ref x12])), (x1, .inl (G.2.1, 200, .inl x_text)), (x2, .inl (G.2.1, 37, .inl x_told)), (x3, .inl (G.2.1, 37, .inl x_draft)), (x4, .inl (G.2.1, 36, .inl x_begun)), (x5, .inl (G.2.1, 86, .inl x_s)), (x6, .inl (G.2.1, 688, .inl x_past)), (x7, .inl (G.2.1, 172, .inl x_images)), (x8, .inl (G.2.1, 6, .inl x_seen)), (x9, .inl (G.2.1, 6, .inl x_seenDays)), (x10, .inl (G.2.1, 86, .inl x_held)), (x11, .inl (G.2.1, 81, .inl x_worth)), (x12, .inl (G.2.1, 48, .inl x_spoken))] (S := Unit) (fun _ => [(x0, .inr (9, [.ref x1, .int x_typed, .ref x2, .ref x3, .ref x4, .int x_words, .ref x5, .ref x6, .int x_known, .ref x7, .int x_kept, .ref x8, .ref x9, .int x_sights, .int x_at, .int x_without, .ref x10, .ref x11, .ref x12])), (x1, .inl (G.2.1, 200, .inl x_text)), (x2, .inl (G.2.1, 37, .inl x_told)), (x3, .inl (G.2.1, 37, .inl x_draft)), (x4, .inl (G.2.1, 36, .inl x_begun)), (x5, .inl (G.2.1, 86, .inl x_s)), (x6, .inl (G.2.1, 688, .inl x_past)), (x7, .inl (G.2.1, 172, .inl x_images)), (x8, .inl (G.2.1, 6, .inl x_seen)), (x9, .inl (G.2.1, 6, .inl x_seenDays)), (x10, .inl (G.2.1, 86, .inl x_held)), (x11, .inl (G.2.1, 81, .inl x_worth)), (x12, .inl (G.2.1, 48, .inl x_spoken))]) (fun r u => K r) 0 0 := by
  refine kI_of (cc := cX9_isHungry) (maxL := 2) (ret := .boolean) (by decide) rfl (Nat.le_of_ble_eq_true rfl) ?_
  intro p e s m below meth c Q A ls Fx hK hN hA hnm hret hP hD hl hS
  obtain ⟨hx, hb, hml, hown, hts⟩ := id Fx
  have hown : s.vm.findClass RX9 = some m.cls := hown
  have hl : lv_has ls 2 [(0, .ref x0), (1, .int a1)] := hl
  have hiX9 : ∀ w ∈ u_ws RX9 TX9 19, w ∈ wsX9_isHungry := by decide +kernel
  unfold wpX9_isHungry at h
  refine lv_aload_n hx hb dX9_isHungry_0 rfl (lv_at hl 0 rfl) ?_
  refine lv_iload_n hx hb dX9_isHungry_1 rfl (lv_at hl 1 rfl) ?_
  refine lv_bipush (v := 29) hx hb dX9_isHungry_2 (by decide) ?_
  refine kc_i (Wr := []) (va_runV (As := [.int a1, .int 29]) (rest := []) Fx (MX9_sumOf l G x0 x1 x2 x3 x4 x5 x6 x7 x8 x9 x10 x11 x12 x_typed x_words x_known x_kept x_sights x_at x_without x_text x_told x_draft x_begun x_s x_past x_images x_seen x_seenDays x_held x_worth x_spoken a1 29 h s.heap.size) (cwV 2 hts gX9_isHungry_X9_sumOf rfl rfl rfl (by decide +kernel) ⟨Nat.le_of_ble_eq_true rfl, Nat.le_of_ble_eq_true rfl⟩) (kpreV hP hD hK hN [0, 1, 2, 3, 4, 5, 6, 7, 8, 9, 10, 11, 12] rfl rfl 0 rfl rfl) rfl rfl hl.1 rfl (lv_room (Nat.le_of_ble_eq_true rfl)) dX9_isHungry_4 ⟨Nat.le_of_ble_eq_true rfl, Nat.le_of_ble_eq_true rfl⟩) hP hD hS hA [0, 1, 2, 3, 4, 5, 6, 7, 8, 9, 10, 11, 12] [] rfl rfl rfl (by decide +kernel) (fun r_1 u H locs h hP hD hS => ?_)
  have hP : va_P G.1 vwCl [(x0, .inr (9, [.ref x1, .int x_typed, .ref x2, .ref x3, .ref x4, .int x_words, .ref x5, .ref x6, .int x_known, .ref x7, .int x_kept, .ref x8, .ref x9, .int x_sights, .int x_at, .int x_without, .ref x10, .ref x11, .ref x12])), (x1, .inl (G.2.1, 200, .inl x_text)), (x2, .inl (G.2.1, 37, .inl x_told)), (x3, .inl (G.2.1, 37, .inl x_draft)), (x4, .inl (G.2.1, 36, .inl x_begun)), (x5, .inl (G.2.1, 86, .inl x_s)), (x6, .inl (G.2.1, 688, .inl x_past)), (x7, .inl (G.2.1, 172, .inl x_images)), (x8, .inl (G.2.1, 6, .inl x_seen)), (x9, .inl (G.2.1, 6, .inl x_seenDays)), (x10, .inl (G.2.1, 86, .inl x_held)), (x11, .inl (G.2.1, 81, .inl x_worth)), (x12, .inl (G.2.1, 48, .inl x_spoken))] H := hP
  have hD : va_D A [(x0, .inr (9, [.ref x1, .int x_typed, .ref x2, .ref x3, .ref x4, .int x_words, .ref x5, .ref x6, .int x_known, .ref x7, .int x_kept, .ref x8, .ref x9, .int x_sights, .int x_at, .int x_without, .ref x10, .ref x11, .ref x12])), (x1, .inl (G.2.1, 200, .inl x_text)), (x2, .inl (G.2.1, 37, .inl x_told)), (x3, .inl (G.2.1, 37, .inl x_draft)), (x4, .inl (G.2.1, 36, .inl x_begun)), (x5, .inl (G.2.1, 86, .inl x_s)), (x6, .inl (G.2.1, 688, .inl x_past)), (x7, .inl (G.2.1, 172, .inl x_images)), (x8, .inl (G.2.1, 6, .inl x_seen)), (x9, .inl (G.2.1, 6, .inl x_seenDays)), (x10, .inl (G.2.1, 86, .inl x_held)), (x11, .inl (G.2.1, 81, .inl x_worth)), (x12, .inl (G.2.1, 48, .inl x_spoken))] := hD
  refine lv_aload_n hx hb dX9_isHungry_7 rfl (lv_at hl 0 rfl) ?_
  refine va_get (D := G.1) (ci := 9) (v := .ref x2) (C := RX9) (T := TX9) (N := 19) hx hb hts hiX9 hown hK hP 0 rfl rfl 2 (by decide) (hts (.fieldLink RX9 13 "LodgingNamesModel" "told" "[I") (by decide +kernel)) (fun _ h9 => h9) rfl dX9_isHungry_8 ?_
  refine lv_bipush (v := 15) hx hb dX9_isHungry_11 (by decide) ?_
  refine lv_iload_n hx hb dX9_isHungry_13 rfl (lv_at hl 1 rfl) ?_
  refine lv_iadd hx hb dX9_isHungry_14 ?_
  obtain ⟨hin, h⟩ := h
  refine va_iald hx hb hK hP 2 0 rfl rfl hin dX9_isHungry_15 ?_
  refine lv_icmp_le (tgt := 23) hx hb dX9_isHungry_16 (by decide) (fun hc => ?_) (fun hc => ?_)
  · have h := wp_t h hc
    refine lv_iconst (v := 0) hx hb dX9_isHungry_23 (by decide) ?_
    exact hret _ _ _ _ _ () rfl dX9_isHungry_24 h hP hD hS
  · have h := wp_f h hc
    refine lv_iconst (v := 1) hx hb dX9_isHungry_19 (by decide) ?_
    refine lv_goto (tgt := 24) hx hb dX9_isHungry_20 (by decide) ?_
    exact hret _ _ _ _ _ () rfl dX9_isHungry_24 h hP hD hS

abbrev rmX9_person : Room := { frames := 2, cells := 0, slots := 0, locals := 45 }
set_option maxHeartbeats 4000000 in
set_option maxRecDepth 100000 in
theorem MX9_person (l : Launch) (G : kG) (x0 x1 x2 x3 x4 x5 x6 x7 x8 x9 x10 x11 x12 : Nat) (x_typed : Int32) (x_words : Int32) (x_known : Int32) (x_kept : Int32) (x_sights : Int32) (x_at : Int32) (x_without : Int32) (x_text : Nat → Int32) (x_told : Nat → Int32) (x_draft : Nat → Int32) (x_begun : Nat → Int32) (x_s : Nat → Int32) (x_past : Nat → Int32) (x_images : Nat → Int32) (x_seen : Nat → Int32) (x_seenDays : Nat → Int32) (x_held : Nat → Int32) (x_worth : Nat → Int32) (x_spoken : Nat → Int32) (a1 : Int32) (a2 : Int32) {K : Int32 → Prop} (h : wpX9_person x_told x_s a1 a2 K) : kI l G yX9_person wsX9_person rmX9_person [.ref x0, .int a1, .int a2] [(x0, .inr (9, [.ref x1, .int x_typed, .ref x2, .ref x3, .ref x4, .int x_words, .ref x5, .ref x6, .int x_known, .ref x7, .int x_kept, .ref x8, .ref x9, .int x_sights, .int x_at, .int x_without, .ref x10, .ref x11, .ref x12])), (x1, .inl (G.2.1, 200, .inl x_text)), (x2, .inl (G.2.1, 37, .inl x_told)), (x3, .inl (G.2.1, 37, .inl x_draft)), (x4, .inl (G.2.1, 36, .inl x_begun)), (x5, .inl (G.2.1, 86, .inl x_s)), (x6, .inl (G.2.1, 688, .inl x_past)), (x7, .inl (G.2.1, 172, .inl x_images)), (x8, .inl (G.2.1, 6, .inl x_seen)), (x9, .inl (G.2.1, 6, .inl x_seenDays)), (x10, .inl (G.2.1, 86, .inl x_held)), (x11, .inl (G.2.1, 81, .inl x_worth)), (x12, .inl (G.2.1, 48, .inl x_spoken))] (S := Unit) (fun _ => [(x0, .inr (9, [.ref x1, .int x_typed, .ref x2, .ref x3, .ref x4, .int x_words, .ref x5, .ref x6, .int x_known, .ref x7, .int x_kept, .ref x8, .ref x9, .int x_sights, .int x_at, .int x_without, .ref x10, .ref x11, .ref x12])), (x1, .inl (G.2.1, 200, .inl x_text)), (x2, .inl (G.2.1, 37, .inl x_told)), (x3, .inl (G.2.1, 37, .inl x_draft)), (x4, .inl (G.2.1, 36, .inl x_begun)), (x5, .inl (G.2.1, 86, .inl x_s)), (x6, .inl (G.2.1, 688, .inl x_past)), (x7, .inl (G.2.1, 172, .inl x_images)), (x8, .inl (G.2.1, 6, .inl x_seen)), (x9, .inl (G.2.1, 6, .inl x_seenDays)), (x10, .inl (G.2.1, 86, .inl x_held)), (x11, .inl (G.2.1, 81, .inl x_worth)), (x12, .inl (G.2.1, 48, .inl x_spoken))]) (fun r u => K r) 0 0 := by
  refine kI_of (cc := cX9_person) (maxL := 3) (ret := .int) (by decide) rfl (Nat.le_of_ble_eq_true rfl) ?_
  intro p e s m below meth c Q A ls Fx hK hN hA hnm hret hP hD hl hS
  obtain ⟨hx, hb, hml, hown, hts⟩ := id Fx
  have hown : s.vm.findClass RX9 = some m.cls := hown
  have hl : lv_has ls 3 [(0, .ref x0), (1, .int a1), (2, .int a2)] := hl
  have hiX9 : ∀ w ∈ u_ws RX9 TX9 19, w ∈ wsX9_person := by decide +kernel
  unfold wpX9_person at h
  refine lv_aload_n hx hb dX9_person_0 rfl (lv_at hl 0 rfl) ?_
  refine lv_iload_n hx hb dX9_person_1 rfl (lv_at hl 1 rfl) ?_
  refine kc_i (Wr := []) (va_runV (As := [.int a1]) (rest := []) Fx (MX9_isPerson l G x0 x1 x2 x3 x4 x5 x6 x7 x8 x9 x10 x11 x12 x_typed x_words x_known x_kept x_sights x_at x_without x_text x_told x_draft x_begun x_s x_past x_images x_seen x_seenDays x_held x_worth x_spoken a1 h s.heap.size) (cwV 1 hts gX9_person_X9_isPerson rfl rfl rfl (by decide +kernel) ⟨Nat.le_of_ble_eq_true rfl, Nat.le_of_ble_eq_true rfl⟩) (kpreV hP hD hK hN [0, 1, 2, 3, 4, 5, 6, 7, 8, 9, 10, 11, 12] rfl rfl 0 rfl rfl) rfl rfl hl.1 rfl (lv_room (Nat.le_of_ble_eq_true rfl)) dX9_person_2 ⟨Nat.le_of_ble_eq_true rfl, Nat.le_of_ble_eq_true rfl⟩) hP hD hS hA [0, 1, 2, 3, 4, 5, 6, 7, 8, 9, 10, 11, 12] [] rfl rfl rfl (by decide +kernel) (fun r_1 u H locs h hP hD hS => ?_)
  have hP : va_P G.1 vwCl [(x0, .inr (9, [.ref x1, .int x_typed, .ref x2, .ref x3, .ref x4, .int x_words, .ref x5, .ref x6, .int x_known, .ref x7, .int x_kept, .ref x8, .ref x9, .int x_sights, .int x_at, .int x_without, .ref x10, .ref x11, .ref x12])), (x1, .inl (G.2.1, 200, .inl x_text)), (x2, .inl (G.2.1, 37, .inl x_told)), (x3, .inl (G.2.1, 37, .inl x_draft)), (x4, .inl (G.2.1, 36, .inl x_begun)), (x5, .inl (G.2.1, 86, .inl x_s)), (x6, .inl (G.2.1, 688, .inl x_past)), (x7, .inl (G.2.1, 172, .inl x_images)), (x8, .inl (G.2.1, 6, .inl x_seen)), (x9, .inl (G.2.1, 6, .inl x_seenDays)), (x10, .inl (G.2.1, 86, .inl x_held)), (x11, .inl (G.2.1, 81, .inl x_worth)), (x12, .inl (G.2.1, 48, .inl x_spoken))] H := hP
  have hD : va_D A [(x0, .inr (9, [.ref x1, .int x_typed, .ref x2, .ref x3, .ref x4, .int x_words, .ref x5, .ref x6, .int x_known, .ref x7, .int x_kept, .ref x8, .ref x9, .int x_sights, .int x_at, .int x_without, .ref x10, .ref x11, .ref x12])), (x1, .inl (G.2.1, 200, .inl x_text)), (x2, .inl (G.2.1, 37, .inl x_told)), (x3, .inl (G.2.1, 37, .inl x_draft)), (x4, .inl (G.2.1, 36, .inl x_begun)), (x5, .inl (G.2.1, 86, .inl x_s)), (x6, .inl (G.2.1, 688, .inl x_past)), (x7, .inl (G.2.1, 172, .inl x_images)), (x8, .inl (G.2.1, 6, .inl x_seen)), (x9, .inl (G.2.1, 6, .inl x_seenDays)), (x10, .inl (G.2.1, 86, .inl x_held)), (x11, .inl (G.2.1, 81, .inl x_worth)), (x12, .inl (G.2.1, 48, .inl x_spoken))] := hD
  refine lv_if_ne (tgt := 10) hx hb dX9_person_5 (by decide) (fun hc => ?_) (fun hc => ?_)
  · have h := wp_f h hc
    refine lv_iload_n hx hb dX9_person_10 rfl (lv_at hl 2 rfl) ?_
    by_cases c11_0 : a2 = 0
    · have h := wp_t h c11_0
      refine lv_tableIn (tgt := 44) hx hb dX9_person_11 (by rw [c11_0] <;> decide) (by rw [c11_0] <;> decide) (by rw [c11_0] <;> rfl) (by decide) ?_
      refine lv_aload_n hx hb dX9_person_44 rfl (lv_at hl 0 rfl) ?_
      refine va_get (D := G.1) (ci := 9) (v := .ref x2) (C := RX9) (T := TX9) (N := 19) hx hb hts hiX9 hown hK hP 0 rfl rfl 2 (by decide) (hts (.fieldLink RX9 13 "LodgingNamesModel" "told" "[I") (by decide +kernel)) (fun _ h9 => h9) rfl dX9_person_45 ?_
      refine lv_iconst (v := 3) hx hb dX9_person_48 (by decide) ?_
      refine lv_iload_n hx hb dX9_person_49 rfl (lv_at hl 1 rfl) ?_
      refine lv_iadd hx hb dX9_person_50 ?_
      obtain ⟨hin, h⟩ := h
      refine va_iald hx hb hK hP 2 0 rfl rfl hin dX9_person_51 ?_
      exact hret _ _ _ _ _ () rfl dX9_person_52 h hP hD hS
    have h := wp_f h c11_0
    by_cases c11_1 : a2 = 1
    · have h := wp_t h c11_1
      refine lv_tableIn (tgt := 53) hx hb dX9_person_11 (by rw [c11_1] <;> decide) (by rw [c11_1] <;> decide) (by rw [c11_1] <;> rfl) (by decide) ?_
      refine lv_aload_n hx hb dX9_person_53 rfl (lv_at hl 0 rfl) ?_
      refine va_get (D := G.1) (ci := 9) (v := .ref x2) (C := RX9) (T := TX9) (N := 19) hx hb hts hiX9 hown hK hP 0 rfl rfl 2 (by decide) (hts (.fieldLink RX9 13 "LodgingNamesModel" "told" "[I") (by decide +kernel)) (fun _ h9 => h9) rfl dX9_person_54 ?_
      refine lv_bipush (v := 9) hx hb dX9_person_57 (by decide) ?_
      refine lv_iload_n hx hb dX9_person_59 rfl (lv_at hl 1 rfl) ?_
      refine lv_iadd hx hb dX9_person_60 ?_
      obtain ⟨hin, h⟩ := h
      refine va_iald hx hb hK hP 2 0 rfl rfl hin dX9_person_61 ?_
      exact hret _ _ _ _ _ () rfl dX9_person_62 h hP hD hS
    have h := wp_f h c11_1
    by_cases c11_2 : a2 = 2
    · have h := wp_t h c11_2
      refine lv_tableIn (tgt := 63) hx hb dX9_person_11 (by rw [c11_2] <;> decide) (by rw [c11_2] <;> decide) (by rw [c11_2] <;> rfl) (by decide) ?_
      refine lv_aload_n hx hb dX9_person_63 rfl (lv_at hl 0 rfl) ?_
      refine va_get (D := G.1) (ci := 9) (v := .ref x2) (C := RX9) (T := TX9) (N := 19) hx hb hts hiX9 hown hK hP 0 rfl rfl 2 (by decide) (hts (.fieldLink RX9 13 "LodgingNamesModel" "told" "[I") (by decide +kernel)) (fun _ h9 => h9) rfl dX9_person_64 ?_
      refine lv_bipush (v := 15) hx hb dX9_person_67 (by decide) ?_
      refine lv_iload_n hx hb dX9_person_69 rfl (lv_at hl 1 rfl) ?_
      refine lv_iadd hx hb dX9_person_70 ?_
      obtain ⟨hin, h⟩ := h
      refine va_iald hx hb hK hP 2 0 rfl rfl hin dX9_person_71 ?_
      exact hret _ _ _ _ _ () rfl dX9_person_72 h hP hD hS
    have h := wp_f h c11_2
    by_cases c11_3 : a2 = 3
    · have h := wp_t h c11_3
      refine lv_tableIn (tgt := 73) hx hb dX9_person_11 (by rw [c11_3] <;> decide) (by rw [c11_3] <;> decide) (by rw [c11_3] <;> rfl) (by decide) ?_
      refine lv_aload_n hx hb dX9_person_73 rfl (lv_at hl 0 rfl) ?_
      refine lv_iload_n hx hb dX9_person_74 rfl (lv_at hl 1 rfl) ?_
      refine kc_i (Wr := []) (va_runV (As := [.int a1]) (rest := []) Fx (MX9_lodgers l G x0 x1 x2 x3 x4 x5 x6 x7 x8 x9 x10 x11 x12 x_typed x_words x_known x_kept x_sights x_at x_without x_text x_told x_draft x_begun x_s x_past x_images x_seen x_seenDays x_held x_worth x_spoken a1 h H.size) (cwV 1 hts gX9_person_X9_lodgers rfl rfl rfl (by decide +kernel) ⟨Nat.le_of_ble_eq_true rfl, Nat.le_of_ble_eq_true rfl⟩) (kpreV hP hD hK hN [0, 1, 2, 3, 4, 5, 6, 7, 8, 9, 10, 11, 12] rfl rfl 0 rfl rfl) rfl rfl hl.1 rfl (lv_room (Nat.le_of_ble_eq_true rfl)) dX9_person_75 ⟨Nat.le_of_ble_eq_true rfl, Nat.le_of_ble_eq_true rfl⟩) hP hD hS hA [0, 1, 2, 3, 4, 5, 6, 7, 8, 9, 10, 11, 12] [] rfl rfl rfl (by decide +kernel) (fun r_2 u H locs h hP hD hS => ?_)
      have hP : va_P G.1 vwCl [(x0, .inr (9, [.ref x1, .int x_typed, .ref x2, .ref x3, .ref x4, .int x_words, .ref x5, .ref x6, .int x_known, .ref x7, .int x_kept, .ref x8, .ref x9, .int x_sights, .int x_at, .int x_without, .ref x10, .ref x11, .ref x12])), (x1, .inl (G.2.1, 200, .inl x_text)), (x2, .inl (G.2.1, 37, .inl x_told)), (x3, .inl (G.2.1, 37, .inl x_draft)), (x4, .inl (G.2.1, 36, .inl x_begun)), (x5, .inl (G.2.1, 86, .inl x_s)), (x6, .inl (G.2.1, 688, .inl x_past)), (x7, .inl (G.2.1, 172, .inl x_images)), (x8, .inl (G.2.1, 6, .inl x_seen)), (x9, .inl (G.2.1, 6, .inl x_seenDays)), (x10, .inl (G.2.1, 86, .inl x_held)), (x11, .inl (G.2.1, 81, .inl x_worth)), (x12, .inl (G.2.1, 48, .inl x_spoken))] H := hP
      have hD : va_D A [(x0, .inr (9, [.ref x1, .int x_typed, .ref x2, .ref x3, .ref x4, .int x_words, .ref x5, .ref x6, .int x_known, .ref x7, .int x_kept, .ref x8, .ref x9, .int x_sights, .int x_at, .int x_without, .ref x10, .ref x11, .ref x12])), (x1, .inl (G.2.1, 200, .inl x_text)), (x2, .inl (G.2.1, 37, .inl x_told)), (x3, .inl (G.2.1, 37, .inl x_draft)), (x4, .inl (G.2.1, 36, .inl x_begun)), (x5, .inl (G.2.1, 86, .inl x_s)), (x6, .inl (G.2.1, 688, .inl x_past)), (x7, .inl (G.2.1, 172, .inl x_images)), (x8, .inl (G.2.1, 6, .inl x_seen)), (x9, .inl (G.2.1, 6, .inl x_seenDays)), (x10, .inl (G.2.1, 86, .inl x_held)), (x11, .inl (G.2.1, 81, .inl x_worth)), (x12, .inl (G.2.1, 48, .inl x_spoken))] := hD
      exact hret _ _ _ _ _ () rfl dX9_person_78 h hP hD hS
    have h := wp_f h c11_3
    by_cases c11_4 : a2 = 4
    · have h := wp_t h c11_4
      refine lv_tableIn (tgt := 79) hx hb dX9_person_11 (by rw [c11_4] <;> decide) (by rw [c11_4] <;> decide) (by rw [c11_4] <;> rfl) (by decide) ?_
      refine lv_aload_n hx hb dX9_person_79 rfl (lv_at hl 0 rfl) ?_
      refine lv_iload_n hx hb dX9_person_80 rfl (lv_at hl 1 rfl) ?_
      refine kc_i (Wr := []) (va_runV (As := [.int a1]) (rest := []) Fx (MX9_isHungry l G x0 x1 x2 x3 x4 x5 x6 x7 x8 x9 x10 x11 x12 x_typed x_words x_known x_kept x_sights x_at x_without x_text x_told x_draft x_begun x_s x_past x_images x_seen x_seenDays x_held x_worth x_spoken a1 h H.size) (cwV 1 hts gX9_person_X9_isHungry rfl rfl rfl (by decide +kernel) ⟨Nat.le_of_ble_eq_true rfl, Nat.le_of_ble_eq_true rfl⟩) (kpreV hP hD hK hN [0, 1, 2, 3, 4, 5, 6, 7, 8, 9, 10, 11, 12] rfl rfl 0 rfl rfl) rfl rfl hl.1 rfl (lv_room (Nat.le_of_ble_eq_true rfl)) dX9_person_81 ⟨Nat.le_of_ble_eq_true rfl, Nat.le_of_ble_eq_true rfl⟩) hP hD hS hA [0, 1, 2, 3, 4, 5, 6, 7, 8, 9, 10, 11, 12] [] rfl rfl rfl (by decide +kernel) (fun r_3 u H locs h hP hD hS => ?_)
      have hP : va_P G.1 vwCl [(x0, .inr (9, [.ref x1, .int x_typed, .ref x2, .ref x3, .ref x4, .int x_words, .ref x5, .ref x6, .int x_known, .ref x7, .int x_kept, .ref x8, .ref x9, .int x_sights, .int x_at, .int x_without, .ref x10, .ref x11, .ref x12])), (x1, .inl (G.2.1, 200, .inl x_text)), (x2, .inl (G.2.1, 37, .inl x_told)), (x3, .inl (G.2.1, 37, .inl x_draft)), (x4, .inl (G.2.1, 36, .inl x_begun)), (x5, .inl (G.2.1, 86, .inl x_s)), (x6, .inl (G.2.1, 688, .inl x_past)), (x7, .inl (G.2.1, 172, .inl x_images)), (x8, .inl (G.2.1, 6, .inl x_seen)), (x9, .inl (G.2.1, 6, .inl x_seenDays)), (x10, .inl (G.2.1, 86, .inl x_held)), (x11, .inl (G.2.1, 81, .inl x_worth)), (x12, .inl (G.2.1, 48, .inl x_spoken))] H := hP
      have hD : va_D A [(x0, .inr (9, [.ref x1, .int x_typed, .ref x2, .ref x3, .ref x4, .int x_words, .ref x5, .ref x6, .int x_known, .ref x7, .int x_kept, .ref x8, .ref x9, .int x_sights, .int x_at, .int x_without, .ref x10, .ref x11, .ref x12])), (x1, .inl (G.2.1, 200, .inl x_text)), (x2, .inl (G.2.1, 37, .inl x_told)), (x3, .inl (G.2.1, 37, .inl x_draft)), (x4, .inl (G.2.1, 36, .inl x_begun)), (x5, .inl (G.2.1, 86, .inl x_s)), (x6, .inl (G.2.1, 688, .inl x_past)), (x7, .inl (G.2.1, 172, .inl x_images)), (x8, .inl (G.2.1, 6, .inl x_seen)), (x9, .inl (G.2.1, 6, .inl x_seenDays)), (x10, .inl (G.2.1, 86, .inl x_held)), (x11, .inl (G.2.1, 81, .inl x_worth)), (x12, .inl (G.2.1, 48, .inl x_spoken))] := hD
      refine lv_if_eq (tgt := 91) hx hb dX9_person_84 (by decide) (fun hc => ?_) (fun hc => ?_)
      · have h := wp_t h hc
        refine lv_iconst (v := 0) hx hb dX9_person_91 (by decide) ?_
        exact hret _ _ _ _ _ () rfl dX9_person_92 h hP hD hS
      · have h := wp_f h hc
        refine lv_iconst (v := 1) hx hb dX9_person_87 (by decide) ?_
        refine lv_goto (tgt := 92) hx hb dX9_person_88 (by decide) ?_
        exact hret _ _ _ _ _ () rfl dX9_person_92 h hP hD hS
    have h := wp_f h c11_4
    have n11_0 : ¬ (0 : Int) = (a2).toInt := fun q => c11_0 (Int32.toInt_inj.mp (q.symm.trans rfl))
    have n11_1 : ¬ (1 : Int) = (a2).toInt := fun q => c11_1 (Int32.toInt_inj.mp (q.symm.trans rfl))
    have n11_2 : ¬ (2 : Int) = (a2).toInt := fun q => c11_2 (Int32.toInt_inj.mp (q.symm.trans rfl))
    have n11_3 : ¬ (3 : Int) = (a2).toInt := fun q => c11_3 (Int32.toInt_inj.mp (q.symm.trans rfl))
    have n11_4 : ¬ (4 : Int) = (a2).toInt := fun q => c11_4 (Int32.toInt_inj.mp (q.symm.trans rfl))
    refine lv_tableOut (tgt := 93) hx hb dX9_person_11 (by omega) (by decide) ?_
    refine lv_iconst (v := (-1)) hx hb dX9_person_93 (by decide) ?_
    exact hret _ _ _ _ _ () rfl dX9_person_94 h hP hD hS
  · have h := wp_t h hc
    refine lv_iconst (v := (-1)) hx hb dX9_person_8 (by decide) ?_
    exact hret _ _ _ _ _ () rfl dX9_person_9 h hP hD hS

abbrev rmX9_name : Room := { frames := 2, cells := 0, slots := 0, locals := 43 }
set_option maxHeartbeats 4000000 in
set_option maxRecDepth 100000 in
theorem MX9_name (l : Launch) (G : kG) (x0 x1 x2 x3 x4 x5 x6 x7 x8 x9 x10 x11 x12 : Nat) (x_typed : Int32) (x_words : Int32) (x_known : Int32) (x_kept : Int32) (x_sights : Int32) (x_at : Int32) (x_without : Int32) (x_text : Nat → Int32) (x_told : Nat → Int32) (x_draft : Nat → Int32) (x_begun : Nat → Int32) (x_s : Nat → Int32) (x_past : Nat → Int32) (x_images : Nat → Int32) (x_seen : Nat → Int32) (x_seenDays : Nat → Int32) (x_held : Nat → Int32) (x_worth : Nat → Int32) (x_spoken : Nat → Int32) (a1 : Int32) (a2 : Int32) {K : Int32 → Prop} (h : wpX9_name x_told a1 a2 K) : kI l G yX9_name wsX9_name rmX9_name [.ref x0, .int a1, .int a2] [(x0, .inr (9, [.ref x1, .int x_typed, .ref x2, .ref x3, .ref x4, .int x_words, .ref x5, .ref x6, .int x_known, .ref x7, .int x_kept, .ref x8, .ref x9, .int x_sights, .int x_at, .int x_without, .ref x10, .ref x11, .ref x12])), (x1, .inl (G.2.1, 200, .inl x_text)), (x2, .inl (G.2.1, 37, .inl x_told)), (x3, .inl (G.2.1, 37, .inl x_draft)), (x4, .inl (G.2.1, 36, .inl x_begun)), (x5, .inl (G.2.1, 86, .inl x_s)), (x6, .inl (G.2.1, 688, .inl x_past)), (x7, .inl (G.2.1, 172, .inl x_images)), (x8, .inl (G.2.1, 6, .inl x_seen)), (x9, .inl (G.2.1, 6, .inl x_seenDays)), (x10, .inl (G.2.1, 86, .inl x_held)), (x11, .inl (G.2.1, 81, .inl x_worth)), (x12, .inl (G.2.1, 48, .inl x_spoken))] (S := Unit) (fun _ => [(x0, .inr (9, [.ref x1, .int x_typed, .ref x2, .ref x3, .ref x4, .int x_words, .ref x5, .ref x6, .int x_known, .ref x7, .int x_kept, .ref x8, .ref x9, .int x_sights, .int x_at, .int x_without, .ref x10, .ref x11, .ref x12])), (x1, .inl (G.2.1, 200, .inl x_text)), (x2, .inl (G.2.1, 37, .inl x_told)), (x3, .inl (G.2.1, 37, .inl x_draft)), (x4, .inl (G.2.1, 36, .inl x_begun)), (x5, .inl (G.2.1, 86, .inl x_s)), (x6, .inl (G.2.1, 688, .inl x_past)), (x7, .inl (G.2.1, 172, .inl x_images)), (x8, .inl (G.2.1, 6, .inl x_seen)), (x9, .inl (G.2.1, 6, .inl x_seenDays)), (x10, .inl (G.2.1, 86, .inl x_held)), (x11, .inl (G.2.1, 81, .inl x_worth)), (x12, .inl (G.2.1, 48, .inl x_spoken))]) (fun r u => K r) 0 0 := by
  refine kI_of (cc := cX9_name) (maxL := 3) (ret := .int) (by decide) rfl (Nat.le_of_ble_eq_true rfl) ?_
  intro p e s m below meth c Q A ls Fx hK hN hA hnm hret hP hD hl hS
  obtain ⟨hx, hb, hml, hown, hts⟩ := id Fx
  have hown : s.vm.findClass RX9 = some m.cls := hown
  have hl : lv_has ls 3 [(0, .ref x0), (1, .int a1), (2, .int a2)] := hl
  have hiX9 : ∀ w ∈ u_ws RX9 TX9 19, w ∈ wsX9_name := by decide +kernel
  unfold wpX9_name at h
  refine lv_aload_n hx hb dX9_name_0 rfl (lv_at hl 0 rfl) ?_
  refine lv_iload_n hx hb dX9_name_1 rfl (lv_at hl 1 rfl) ?_
  refine kc_i (Wr := []) (va_runV (As := [.int a1]) (rest := []) Fx (MX9_isName l G x0 x1 x2 x3 x4 x5 x6 x7 x8 x9 x10 x11 x12 x_typed x_words x_known x_kept x_sights x_at x_without x_text x_told x_draft x_begun x_s x_past x_images x_seen x_seenDays x_held x_worth x_spoken a1 h s.heap.size) (cwV 1 hts gX9_name_X9_isName rfl rfl rfl (by decide +kernel) ⟨Nat.le_of_ble_eq_true rfl, Nat.le_of_ble_eq_true rfl⟩) (kpreV hP hD hK hN [0, 1, 2, 3, 4, 5, 6, 7, 8, 9, 10, 11, 12] rfl rfl 0 rfl rfl) rfl rfl hl.1 rfl (lv_room (Nat.le_of_ble_eq_true rfl)) dX9_name_2 ⟨Nat.le_of_ble_eq_true rfl, Nat.le_of_ble_eq_true rfl⟩) hP hD hS hA [0, 1, 2, 3, 4, 5, 6, 7, 8, 9, 10, 11, 12] [] rfl rfl rfl (by decide +kernel) (fun r_1 u H locs h hP hD hS => ?_)
  have hP : va_P G.1 vwCl [(x0, .inr (9, [.ref x1, .int x_typed, .ref x2, .ref x3, .ref x4, .int x_words, .ref x5, .ref x6, .int x_known, .ref x7, .int x_kept, .ref x8, .ref x9, .int x_sights, .int x_at, .int x_without, .ref x10, .ref x11, .ref x12])), (x1, .inl (G.2.1, 200, .inl x_text)), (x2, .inl (G.2.1, 37, .inl x_told)), (x3, .inl (G.2.1, 37, .inl x_draft)), (x4, .inl (G.2.1, 36, .inl x_begun)), (x5, .inl (G.2.1, 86, .inl x_s)), (x6, .inl (G.2.1, 688, .inl x_past)), (x7, .inl (G.2.1, 172, .inl x_images)), (x8, .inl (G.2.1, 6, .inl x_seen)), (x9, .inl (G.2.1, 6, .inl x_seenDays)), (x10, .inl (G.2.1, 86, .inl x_held)), (x11, .inl (G.2.1, 81, .inl x_worth)), (x12, .inl (G.2.1, 48, .inl x_spoken))] H := hP
  have hD : va_D A [(x0, .inr (9, [.ref x1, .int x_typed, .ref x2, .ref x3, .ref x4, .int x_words, .ref x5, .ref x6, .int x_known, .ref x7, .int x_kept, .ref x8, .ref x9, .int x_sights, .int x_at, .int x_without, .ref x10, .ref x11, .ref x12])), (x1, .inl (G.2.1, 200, .inl x_text)), (x2, .inl (G.2.1, 37, .inl x_told)), (x3, .inl (G.2.1, 37, .inl x_draft)), (x4, .inl (G.2.1, 36, .inl x_begun)), (x5, .inl (G.2.1, 86, .inl x_s)), (x6, .inl (G.2.1, 688, .inl x_past)), (x7, .inl (G.2.1, 172, .inl x_images)), (x8, .inl (G.2.1, 6, .inl x_seen)), (x9, .inl (G.2.1, 6, .inl x_seenDays)), (x10, .inl (G.2.1, 86, .inl x_held)), (x11, .inl (G.2.1, 81, .inl x_worth)), (x12, .inl (G.2.1, 48, .inl x_spoken))] := hD
  refine lv_if_eq (tgt := 17) hx hb dX9_name_5 (by decide) (fun hc => ?_) (fun hc => ?_)
  · have h := wp_t h hc
    refine lv_iconst (v := (-1)) hx hb dX9_name_17 (by decide) ?_
    refine lv_goto (tgt := 39) hx hb dX9_name_18 (by decide) ?_
    exact hret _ _ _ _ _ () rfl dX9_name_39 h hP hD hS
  · have h := wp_f h hc
    refine lv_iload_n hx hb dX9_name_8 rfl (lv_at hl 2 rfl) ?_
    refine lv_iconst (v := 0) hx hb dX9_name_9 (by decide) ?_
    refine lv_iconst (v := 1) hx hb dX9_name_10 (by decide) ?_
    refine kc_i (Wr := [(x0, .inr (9, [.ref x1, .int x_typed, .ref x2, .ref x3, .ref x4, .int x_words, .ref x5, .ref x6, .int x_known, .ref x7, .int x_kept, .ref x8, .ref x9, .int x_sights, .int x_at, .int x_without, .ref x10, .ref x11, .ref x12])), (x1, .inl (G.2.1, 200, .inl x_text)), (x2, .inl (G.2.1, 37, .inl x_told)), (x3, .inl (G.2.1, 37, .inl x_draft)), (x4, .inl (G.2.1, 36, .inl x_begun)), (x5, .inl (G.2.1, 86, .inl x_s)), (x6, .inl (G.2.1, 688, .inl x_past)), (x7, .inl (G.2.1, 172, .inl x_images)), (x8, .inl (G.2.1, 6, .inl x_seen)), (x9, .inl (G.2.1, 6, .inl x_seenDays)), (x10, .inl (G.2.1, 86, .inl x_held)), (x11, .inl (G.2.1, 81, .inl x_worth)), (x12, .inl (G.2.1, 48, .inl x_spoken))]) (va_runS (As := [.int a2, .int 0, .int 1]) (rest := []) Fx (MX9_in l G a2 0 1 h H.size) (va_cwS 3 hts gX9_name_X9_in rfl rfl rfl (by decide +kernel) ⟨Nat.le_of_ble_eq_true rfl, Nat.le_of_ble_eq_true rfl⟩) (kpreS hP hD hK hN [] rfl rfl) rfl rfl hl.1 rfl (lv_room (Nat.le_of_ble_eq_true rfl)) dX9_name_11 ⟨Nat.le_of_ble_eq_true rfl, Nat.le_of_ble_eq_true rfl⟩) hP hD hS hA [] [0, 1, 2, 3, 4, 5, 6, 7, 8, 9, 10, 11, 12] rfl rfl rfl (by decide +kernel) (fun r_2 u H locs h hP hD hS => ?_)
    have hP : va_P G.1 vwCl [(x0, .inr (9, [.ref x1, .int x_typed, .ref x2, .ref x3, .ref x4, .int x_words, .ref x5, .ref x6, .int x_known, .ref x7, .int x_kept, .ref x8, .ref x9, .int x_sights, .int x_at, .int x_without, .ref x10, .ref x11, .ref x12])), (x1, .inl (G.2.1, 200, .inl x_text)), (x2, .inl (G.2.1, 37, .inl x_told)), (x3, .inl (G.2.1, 37, .inl x_draft)), (x4, .inl (G.2.1, 36, .inl x_begun)), (x5, .inl (G.2.1, 86, .inl x_s)), (x6, .inl (G.2.1, 688, .inl x_past)), (x7, .inl (G.2.1, 172, .inl x_images)), (x8, .inl (G.2.1, 6, .inl x_seen)), (x9, .inl (G.2.1, 6, .inl x_seenDays)), (x10, .inl (G.2.1, 86, .inl x_held)), (x11, .inl (G.2.1, 81, .inl x_worth)), (x12, .inl (G.2.1, 48, .inl x_spoken))] H := hP
    have hD : va_D A [(x0, .inr (9, [.ref x1, .int x_typed, .ref x2, .ref x3, .ref x4, .int x_words, .ref x5, .ref x6, .int x_known, .ref x7, .int x_kept, .ref x8, .ref x9, .int x_sights, .int x_at, .int x_without, .ref x10, .ref x11, .ref x12])), (x1, .inl (G.2.1, 200, .inl x_text)), (x2, .inl (G.2.1, 37, .inl x_told)), (x3, .inl (G.2.1, 37, .inl x_draft)), (x4, .inl (G.2.1, 36, .inl x_begun)), (x5, .inl (G.2.1, 86, .inl x_s)), (x6, .inl (G.2.1, 688, .inl x_past)), (x7, .inl (G.2.1, 172, .inl x_images)), (x8, .inl (G.2.1, 6, .inl x_seen)), (x9, .inl (G.2.1, 6, .inl x_seenDays)), (x10, .inl (G.2.1, 86, .inl x_held)), (x11, .inl (G.2.1, 81, .inl x_worth)), (x12, .inl (G.2.1, 48, .inl x_spoken))] := hD
    refine lv_if_ne (tgt := 21) hx hb dX9_name_14 (by decide) (fun hc => ?_) (fun hc => ?_)
    · have h := wp_f h hc
      refine lv_aload_n hx hb dX9_name_21 rfl (lv_at hl 0 rfl) ?_
      refine va_get (D := G.1) (ci := 9) (v := .ref x2) (C := RX9) (T := TX9) (N := 19) hx hb hts hiX9 hown hK hP 0 rfl rfl 2 (by decide) (hts (.fieldLink RX9 13 "LodgingNamesModel" "told" "[I") (by decide +kernel)) (fun _ h9 => h9) rfl dX9_name_22 ?_
      refine lv_iload_n hx hb dX9_name_25 rfl (lv_at hl 2 rfl) ?_
      have h := h (fun (v_3 : Int32) => ∀ (H : Heap) (locs : List Loc) (ls : Array Slot), va_P G.1 vwCl [(x0, .inr (9, [.ref x1, .int x_typed, .ref x2, .ref x3, .ref x4, .int x_words, .ref x5, .ref x6, .int x_known, .ref x7, .int x_kept, .ref x8, .ref x9, .int x_sights, .int x_at, .int x_without, .ref x10, .ref x11, .ref x12])), (x1, .inl (G.2.1, 200, .inl x_text)), (x2, .inl (G.2.1, 37, .inl x_told)), (x3, .inl (G.2.1, 37, .inl x_draft)), (x4, .inl (G.2.1, 36, .inl x_begun)), (x5, .inl (G.2.1, 86, .inl x_s)), (x6, .inl (G.2.1, 688, .inl x_past)), (x7, .inl (G.2.1, 172, .inl x_images)), (x8, .inl (G.2.1, 6, .inl x_seen)), (x9, .inl (G.2.1, 6, .inl x_seenDays)), (x10, .inl (G.2.1, 86, .inl x_held)), (x11, .inl (G.2.1, 81, .inl x_worth)), (x12, .inl (G.2.1, 48, .inl x_spoken))] H → va_D A [(x0, .inr (9, [.ref x1, .int x_typed, .ref x2, .ref x3, .ref x4, .int x_words, .ref x5, .ref x6, .int x_known, .ref x7, .int x_kept, .ref x8, .ref x9, .int x_sights, .int x_at, .int x_without, .ref x10, .ref x11, .ref x12])), (x1, .inl (G.2.1, 200, .inl x_text)), (x2, .inl (G.2.1, 37, .inl x_told)), (x3, .inl (G.2.1, 37, .inl x_draft)), (x4, .inl (G.2.1, 36, .inl x_begun)), (x5, .inl (G.2.1, 86, .inl x_s)), (x6, .inl (G.2.1, 688, .inl x_past)), (x7, .inl (G.2.1, 172, .inl x_images)), (x8, .inl (G.2.1, 6, .inl x_seen)), (x9, .inl (G.2.1, 6, .inl x_seenDays)), (x10, .inl (G.2.1, 86, .inl x_held)), (x11, .inl (G.2.1, 81, .inl x_worth)), (x12, .inl (G.2.1, 48, .inl x_spoken))] → va_S A s.heap H locs → lv_has ls 3 [(1, .int a1)] → W p l e rmX9_name s m [.ref x0, .int a1, .int a2].toArray below meth c H locs 0 0 Q (F0 m 36 ls [.int v_3, .ref x2]))
      have h := h (fun v_3 h H locs ls hP hD hS hl => by
        refine lv_iload_n hx hb dX9_name_36 rfl (lv_at hl 0 rfl) ?_
        refine lv_iadd hx hb dX9_name_37 ?_
        obtain ⟨hin, h⟩ := h
        refine va_iald hx hb hK hP 2 0 rfl rfl hin dX9_name_38 ?_
        exact hret _ _ _ _ _ () rfl dX9_name_39 h hP hD hS)
      refine lv_if_ne (tgt := 34) hx hb dX9_name_26 (by decide) (fun hc => ?_) (fun hc => ?_)
      · have h := wp_f h hc
        refine lv_bipush (v := 29) hx hb dX9_name_34 (by decide) ?_
        exact h _ _ _ hP hD hS (lv_sub hl [1] rfl)
      · have h := wp_t h hc
        refine lv_bipush (v := 21) hx hb dX9_name_29 (by decide) ?_
        refine lv_goto (tgt := 36) hx hb dX9_name_31 (by decide) ?_
        exact h _ _ _ hP hD hS (lv_sub hl [1] rfl)
    · have h := wp_t h hc
      refine lv_iconst (v := (-1)) hx hb dX9_name_17 (by decide) ?_
      refine lv_goto (tgt := 39) hx hb dX9_name_18 (by decide) ?_
      exact hret _ _ _ _ _ () rfl dX9_name_39 h hP hD hS

abbrev rmX9_stout : Room := { frames := 2, cells := 0, slots := 0, locals := 43 }
set_option maxHeartbeats 4000000 in
set_option maxRecDepth 100000 in
theorem MX9_stout (l : Launch) (G : kG) (x0 x1 x2 x3 x4 x5 x6 x7 x8 x9 x10 x11 x12 : Nat) (x_typed : Int32) (x_words : Int32) (x_known : Int32) (x_kept : Int32) (x_sights : Int32) (x_at : Int32) (x_without : Int32) (x_text : Nat → Int32) (x_told : Nat → Int32) (x_draft : Nat → Int32) (x_begun : Nat → Int32) (x_s : Nat → Int32) (x_past : Nat → Int32) (x_images : Nat → Int32) (x_seen : Nat → Int32) (x_seenDays : Nat → Int32) (x_held : Nat → Int32) (x_worth : Nat → Int32) (x_spoken : Nat → Int32) (a1 : Int32) (a2 : Int32) {K : Int32 → Prop} (h : wpX9_stout x_told x_s a1 a2 K) : kI l G yX9_stout wsX9_stout rmX9_stout [.ref x0, .int a1, .int a2] [(x0, .inr (9, [.ref x1, .int x_typed, .ref x2, .ref x3, .ref x4, .int x_words, .ref x5, .ref x6, .int x_known, .ref x7, .int x_kept, .ref x8, .ref x9, .int x_sights, .int x_at, .int x_without, .ref x10, .ref x11, .ref x12])), (x1, .inl (G.2.1, 200, .inl x_text)), (x2, .inl (G.2.1, 37, .inl x_told)), (x3, .inl (G.2.1, 37, .inl x_draft)), (x4, .inl (G.2.1, 36, .inl x_begun)), (x5, .inl (G.2.1, 86, .inl x_s)), (x6, .inl (G.2.1, 688, .inl x_past)), (x7, .inl (G.2.1, 172, .inl x_images)), (x8, .inl (G.2.1, 6, .inl x_seen)), (x9, .inl (G.2.1, 6, .inl x_seenDays)), (x10, .inl (G.2.1, 86, .inl x_held)), (x11, .inl (G.2.1, 81, .inl x_worth)), (x12, .inl (G.2.1, 48, .inl x_spoken))] (S := Unit) (fun _ => [(x0, .inr (9, [.ref x1, .int x_typed, .ref x2, .ref x3, .ref x4, .int x_words, .ref x5, .ref x6, .int x_known, .ref x7, .int x_kept, .ref x8, .ref x9, .int x_sights, .int x_at, .int x_without, .ref x10, .ref x11, .ref x12])), (x1, .inl (G.2.1, 200, .inl x_text)), (x2, .inl (G.2.1, 37, .inl x_told)), (x3, .inl (G.2.1, 37, .inl x_draft)), (x4, .inl (G.2.1, 36, .inl x_begun)), (x5, .inl (G.2.1, 86, .inl x_s)), (x6, .inl (G.2.1, 688, .inl x_past)), (x7, .inl (G.2.1, 172, .inl x_images)), (x8, .inl (G.2.1, 6, .inl x_seen)), (x9, .inl (G.2.1, 6, .inl x_seenDays)), (x10, .inl (G.2.1, 86, .inl x_held)), (x11, .inl (G.2.1, 81, .inl x_worth)), (x12, .inl (G.2.1, 48, .inl x_spoken))]) (fun r u => K r) 0 0 := by
  refine kI_of (cc := cX9_stout) (maxL := 3) (ret := .int) (by decide) rfl (Nat.le_of_ble_eq_true rfl) ?_
  intro p e s m below meth c Q A ls Fx hK hN hA hnm hret hP hD hl hS
  obtain ⟨hx, hb, hml, hown, hts⟩ := id Fx
  have hown : s.vm.findClass RX9 = some m.cls := hown
  have hl : lv_has ls 3 [(0, .ref x0), (1, .int a1), (2, .int a2)] := hl
  have hiX9 : ∀ w ∈ u_ws RX9 TX9 19, w ∈ wsX9_stout := by decide +kernel
  unfold wpX9_stout at h
  refine lv_aload_n hx hb dX9_stout_0 rfl (lv_at hl 0 rfl) ?_
  refine lv_iload_n hx hb dX9_stout_1 rfl (lv_at hl 1 rfl) ?_
  refine kc_i (Wr := []) (va_runV (As := [.int a1]) (rest := []) Fx (MX9_isPerson l G x0 x1 x2 x3 x4 x5 x6 x7 x8 x9 x10 x11 x12 x_typed x_words x_known x_kept x_sights x_at x_without x_text x_told x_draft x_begun x_s x_past x_images x_seen x_seenDays x_held x_worth x_spoken a1 h s.heap.size) (cwV 1 hts gX9_stout_X9_isPerson rfl rfl rfl (by decide +kernel) ⟨Nat.le_of_ble_eq_true rfl, Nat.le_of_ble_eq_true rfl⟩) (kpreV hP hD hK hN [0, 1, 2, 3, 4, 5, 6, 7, 8, 9, 10, 11, 12] rfl rfl 0 rfl rfl) rfl rfl hl.1 rfl (lv_room (Nat.le_of_ble_eq_true rfl)) dX9_stout_2 ⟨Nat.le_of_ble_eq_true rfl, Nat.le_of_ble_eq_true rfl⟩) hP hD hS hA [0, 1, 2, 3, 4, 5, 6, 7, 8, 9, 10, 11, 12] [] rfl rfl rfl (by decide +kernel) (fun r_1 u H locs h hP hD hS => ?_)
  have hP : va_P G.1 vwCl [(x0, .inr (9, [.ref x1, .int x_typed, .ref x2, .ref x3, .ref x4, .int x_words, .ref x5, .ref x6, .int x_known, .ref x7, .int x_kept, .ref x8, .ref x9, .int x_sights, .int x_at, .int x_without, .ref x10, .ref x11, .ref x12])), (x1, .inl (G.2.1, 200, .inl x_text)), (x2, .inl (G.2.1, 37, .inl x_told)), (x3, .inl (G.2.1, 37, .inl x_draft)), (x4, .inl (G.2.1, 36, .inl x_begun)), (x5, .inl (G.2.1, 86, .inl x_s)), (x6, .inl (G.2.1, 688, .inl x_past)), (x7, .inl (G.2.1, 172, .inl x_images)), (x8, .inl (G.2.1, 6, .inl x_seen)), (x9, .inl (G.2.1, 6, .inl x_seenDays)), (x10, .inl (G.2.1, 86, .inl x_held)), (x11, .inl (G.2.1, 81, .inl x_worth)), (x12, .inl (G.2.1, 48, .inl x_spoken))] H := hP
  have hD : va_D A [(x0, .inr (9, [.ref x1, .int x_typed, .ref x2, .ref x3, .ref x4, .int x_words, .ref x5, .ref x6, .int x_known, .ref x7, .int x_kept, .ref x8, .ref x9, .int x_sights, .int x_at, .int x_without, .ref x10, .ref x11, .ref x12])), (x1, .inl (G.2.1, 200, .inl x_text)), (x2, .inl (G.2.1, 37, .inl x_told)), (x3, .inl (G.2.1, 37, .inl x_draft)), (x4, .inl (G.2.1, 36, .inl x_begun)), (x5, .inl (G.2.1, 86, .inl x_s)), (x6, .inl (G.2.1, 688, .inl x_past)), (x7, .inl (G.2.1, 172, .inl x_images)), (x8, .inl (G.2.1, 6, .inl x_seen)), (x9, .inl (G.2.1, 6, .inl x_seenDays)), (x10, .inl (G.2.1, 86, .inl x_held)), (x11, .inl (G.2.1, 81, .inl x_worth)), (x12, .inl (G.2.1, 48, .inl x_spoken))] := hD
  refine lv_if_eq (tgt := 30) hx hb dX9_stout_5 (by decide) (fun hc => ?_) (fun hc => ?_)
  · have h := wp_t h hc
    refine lv_iconst (v := (-1)) hx hb dX9_stout_30 (by decide) ?_
    exact hret _ _ _ _ _ () rfl dX9_stout_31 h hP hD hS
  · have h := wp_f h hc
    refine lv_aload_n hx hb dX9_stout_8 rfl (lv_at hl 0 rfl) ?_
    refine lv_iload_n hx hb dX9_stout_9 rfl (lv_at hl 2 rfl) ?_
    refine kc_i (Wr := []) (va_runV (As := [.int a2]) (rest := []) Fx (MX9_isName l G x0 x1 x2 x3 x4 x5 x6 x7 x8 x9 x10 x11 x12 x_typed x_words x_known x_kept x_sights x_at x_without x_text x_told x_draft x_begun x_s x_past x_images x_seen x_seenDays x_held x_worth x_spoken a2 h H.size) (cwV 1 hts gX9_stout_X9_isName rfl rfl rfl (by decide +kernel) ⟨Nat.le_of_ble_eq_true rfl, Nat.le_of_ble_eq_true rfl⟩) (kpreV hP hD hK hN [0, 1, 2, 3, 4, 5, 6, 7, 8, 9, 10, 11, 12] rfl rfl 0 rfl rfl) rfl rfl hl.1 rfl (lv_room (Nat.le_of_ble_eq_true rfl)) dX9_stout_10 ⟨Nat.le_of_ble_eq_true rfl, Nat.le_of_ble_eq_true rfl⟩) hP hD hS hA [0, 1, 2, 3, 4, 5, 6, 7, 8, 9, 10, 11, 12] [] rfl rfl rfl (by decide +kernel) (fun r_2 u H locs h hP hD hS => ?_)
    have hP : va_P G.1 vwCl [(x0, .inr (9, [.ref x1, .int x_typed, .ref x2, .ref x3, .ref x4, .int x_words, .ref x5, .ref x6, .int x_known, .ref x7, .int x_kept, .ref x8, .ref x9, .int x_sights, .int x_at, .int x_without, .ref x10, .ref x11, .ref x12])), (x1, .inl (G.2.1, 200, .inl x_text)), (x2, .inl (G.2.1, 37, .inl x_told)), (x3, .inl (G.2.1, 37, .inl x_draft)), (x4, .inl (G.2.1, 36, .inl x_begun)), (x5, .inl (G.2.1, 86, .inl x_s)), (x6, .inl (G.2.1, 688, .inl x_past)), (x7, .inl (G.2.1, 172, .inl x_images)), (x8, .inl (G.2.1, 6, .inl x_seen)), (x9, .inl (G.2.1, 6, .inl x_seenDays)), (x10, .inl (G.2.1, 86, .inl x_held)), (x11, .inl (G.2.1, 81, .inl x_worth)), (x12, .inl (G.2.1, 48, .inl x_spoken))] H := hP
    have hD : va_D A [(x0, .inr (9, [.ref x1, .int x_typed, .ref x2, .ref x3, .ref x4, .int x_words, .ref x5, .ref x6, .int x_known, .ref x7, .int x_kept, .ref x8, .ref x9, .int x_sights, .int x_at, .int x_without, .ref x10, .ref x11, .ref x12])), (x1, .inl (G.2.1, 200, .inl x_text)), (x2, .inl (G.2.1, 37, .inl x_told)), (x3, .inl (G.2.1, 37, .inl x_draft)), (x4, .inl (G.2.1, 36, .inl x_begun)), (x5, .inl (G.2.1, 86, .inl x_s)), (x6, .inl (G.2.1, 688, .inl x_past)), (x7, .inl (G.2.1, 172, .inl x_images)), (x8, .inl (G.2.1, 6, .inl x_seen)), (x9, .inl (G.2.1, 6, .inl x_seenDays)), (x10, .inl (G.2.1, 86, .inl x_held)), (x11, .inl (G.2.1, 81, .inl x_worth)), (x12, .inl (G.2.1, 48, .inl x_spoken))] := hD
    refine lv_if_eq (tgt := 30) hx hb dX9_stout_13 (by decide) (fun hc => ?_) (fun hc => ?_)
    · have h := wp_t h hc
      refine lv_iconst (v := (-1)) hx hb dX9_stout_30 (by decide) ?_
      exact hret _ _ _ _ _ () rfl dX9_stout_31 h hP hD hS
    · have h := wp_f h hc
      refine lv_aload_n hx hb dX9_stout_16 rfl (lv_at hl 0 rfl) ?_
      refine va_get (D := G.1) (ci := 9) (v := .ref x5) (C := RX9) (T := TX9) (N := 19) hx hb hts hiX9 hown hK hP 0 rfl rfl 6 (by decide) (hts (.fieldLink RX9 22 "LodgingNamesModel" "s" "[I") (by decide +kernel)) (fun _ h9 => h9) rfl dX9_stout_17 ?_
      refine lv_bipush (v := 8) hx hb dX9_stout_20 (by decide) ?_
      refine lv_iload_n hx hb dX9_stout_22 rfl (lv_at hl 1 rfl) ?_
      refine lv_imul hx hb dX9_stout_23 ?_
      refine lv_iload_n hx hb dX9_stout_24 rfl (lv_at hl 2 rfl) ?_
      refine lv_iadd hx hb dX9_stout_25 ?_
      obtain ⟨hin, h⟩ := h
      refine va_iald hx hb hK hP 5 0 rfl rfl hin dX9_stout_26 ?_
      refine lv_goto (tgt := 31) hx hb dX9_stout_27 (by decide) ?_
      exact hret _ _ _ _ _ () rfl dX9_stout_31 h hP hD hS

abbrev rmX9_calls : Room := { frames := 3, cells := 0, slots := 0, locals := 65 }
set_option maxHeartbeats 4000000 in
set_option maxRecDepth 100000 in
theorem MX9_calls (l : Launch) (G : kG) (x0 x1 x2 x3 x4 x5 x6 x7 x8 x9 x10 x11 x12 : Nat) (x_typed : Int32) (x_words : Int32) (x_known : Int32) (x_kept : Int32) (x_sights : Int32) (x_at : Int32) (x_without : Int32) (x_text : Nat → Int32) (x_told : Nat → Int32) (x_draft : Nat → Int32) (x_begun : Nat → Int32) (x_s : Nat → Int32) (x_past : Nat → Int32) (x_images : Nat → Int32) (x_seen : Nat → Int32) (x_seenDays : Nat → Int32) (x_held : Nat → Int32) (x_worth : Nat → Int32) (x_spoken : Nat → Int32) (a1 : Int32) (a2 : Int32) (a3 : Int32) {K : Int32 → Prop} (h : wpX9_calls x_told x_s a1 a2 a3 K) : kI l G yX9_calls wsX9_calls rmX9_calls [.ref x0, .int a1, .int a2, .int a3] [(x0, .inr (9, [.ref x1, .int x_typed, .ref x2, .ref x3, .ref x4, .int x_words, .ref x5, .ref x6, .int x_known, .ref x7, .int x_kept, .ref x8, .ref x9, .int x_sights, .int x_at, .int x_without, .ref x10, .ref x11, .ref x12])), (x1, .inl (G.2.1, 200, .inl x_text)), (x2, .inl (G.2.1, 37, .inl x_told)), (x3, .inl (G.2.1, 37, .inl x_draft)), (x4, .inl (G.2.1, 36, .inl x_begun)), (x5, .inl (G.2.1, 86, .inl x_s)), (x6, .inl (G.2.1, 688, .inl x_past)), (x7, .inl (G.2.1, 172, .inl x_images)), (x8, .inl (G.2.1, 6, .inl x_seen)), (x9, .inl (G.2.1, 6, .inl x_seenDays)), (x10, .inl (G.2.1, 86, .inl x_held)), (x11, .inl (G.2.1, 81, .inl x_worth)), (x12, .inl (G.2.1, 48, .inl x_spoken))] (S := Unit) (fun _ => [(x0, .inr (9, [.ref x1, .int x_typed, .ref x2, .ref x3, .ref x4, .int x_words, .ref x5, .ref x6, .int x_known, .ref x7, .int x_kept, .ref x8, .ref x9, .int x_sights, .int x_at, .int x_without, .ref x10, .ref x11, .ref x12])), (x1, .inl (G.2.1, 200, .inl x_text)), (x2, .inl (G.2.1, 37, .inl x_told)), (x3, .inl (G.2.1, 37, .inl x_draft)), (x4, .inl (G.2.1, 36, .inl x_begun)), (x5, .inl (G.2.1, 86, .inl x_s)), (x6, .inl (G.2.1, 688, .inl x_past)), (x7, .inl (G.2.1, 172, .inl x_images)), (x8, .inl (G.2.1, 6, .inl x_seen)), (x9, .inl (G.2.1, 6, .inl x_seenDays)), (x10, .inl (G.2.1, 86, .inl x_held)), (x11, .inl (G.2.1, 81, .inl x_worth)), (x12, .inl (G.2.1, 48, .inl x_spoken))]) (fun r u => K r) 0 0 := by
  refine kI_of (cc := cX9_calls) (maxL := 4) (ret := .int) (by decide) rfl (Nat.le_of_ble_eq_true rfl) ?_
  intro p e s m below meth c Q A ls Fx hK hN hA hnm hret hP hD hl hS
  obtain ⟨hx, hb, hml, hown, hts⟩ := id Fx
  have hown : s.vm.findClass RX9 = some m.cls := hown
  have hl : lv_has ls 4 [(0, .ref x0), (1, .int a1), (2, .int a2), (3, .int a3)] := hl
  have hiX9 : ∀ w ∈ u_ws RX9 TX9 19, w ∈ wsX9_calls := by decide +kernel
  unfold wpX9_calls at h
  refine lv_aload_n hx hb dX9_calls_0 rfl (lv_at hl 0 rfl) ?_
  refine lv_iload_n hx hb dX9_calls_1 rfl (lv_at hl 1 rfl) ?_
  refine lv_iload_n hx hb dX9_calls_2 rfl (lv_at hl 2 rfl) ?_
  refine kc_i (Wr := []) (va_runV (As := [.int a1, .int a2]) (rest := []) Fx (MX9_areTwo l G x0 x1 x2 x3 x4 x5 x6 x7 x8 x9 x10 x11 x12 x_typed x_words x_known x_kept x_sights x_at x_without x_text x_told x_draft x_begun x_s x_past x_images x_seen x_seenDays x_held x_worth x_spoken a1 a2 h s.heap.size) (cwV 2 hts gX9_calls_X9_areTwo rfl rfl rfl (by decide +kernel) ⟨Nat.le_of_ble_eq_true rfl, Nat.le_of_ble_eq_true rfl⟩) (kpreV hP hD hK hN [0, 1, 2, 3, 4, 5, 6, 7, 8, 9, 10, 11, 12] rfl rfl 0 rfl rfl) rfl rfl hl.1 rfl (lv_room (Nat.le_of_ble_eq_true rfl)) dX9_calls_3 ⟨Nat.le_of_ble_eq_true rfl, Nat.le_of_ble_eq_true rfl⟩) hP hD hS hA [0, 1, 2, 3, 4, 5, 6, 7, 8, 9, 10, 11, 12] [] rfl rfl rfl (by decide +kernel) (fun r_1 u H locs h hP hD hS => ?_)
  have hP : va_P G.1 vwCl [(x0, .inr (9, [.ref x1, .int x_typed, .ref x2, .ref x3, .ref x4, .int x_words, .ref x5, .ref x6, .int x_known, .ref x7, .int x_kept, .ref x8, .ref x9, .int x_sights, .int x_at, .int x_without, .ref x10, .ref x11, .ref x12])), (x1, .inl (G.2.1, 200, .inl x_text)), (x2, .inl (G.2.1, 37, .inl x_told)), (x3, .inl (G.2.1, 37, .inl x_draft)), (x4, .inl (G.2.1, 36, .inl x_begun)), (x5, .inl (G.2.1, 86, .inl x_s)), (x6, .inl (G.2.1, 688, .inl x_past)), (x7, .inl (G.2.1, 172, .inl x_images)), (x8, .inl (G.2.1, 6, .inl x_seen)), (x9, .inl (G.2.1, 6, .inl x_seenDays)), (x10, .inl (G.2.1, 86, .inl x_held)), (x11, .inl (G.2.1, 81, .inl x_worth)), (x12, .inl (G.2.1, 48, .inl x_spoken))] H := hP
  have hD : va_D A [(x0, .inr (9, [.ref x1, .int x_typed, .ref x2, .ref x3, .ref x4, .int x_words, .ref x5, .ref x6, .int x_known, .ref x7, .int x_kept, .ref x8, .ref x9, .int x_sights, .int x_at, .int x_without, .ref x10, .ref x11, .ref x12])), (x1, .inl (G.2.1, 200, .inl x_text)), (x2, .inl (G.2.1, 37, .inl x_told)), (x3, .inl (G.2.1, 37, .inl x_draft)), (x4, .inl (G.2.1, 36, .inl x_begun)), (x5, .inl (G.2.1, 86, .inl x_s)), (x6, .inl (G.2.1, 688, .inl x_past)), (x7, .inl (G.2.1, 172, .inl x_images)), (x8, .inl (G.2.1, 6, .inl x_seen)), (x9, .inl (G.2.1, 6, .inl x_seenDays)), (x10, .inl (G.2.1, 86, .inl x_held)), (x11, .inl (G.2.1, 81, .inl x_worth)), (x12, .inl (G.2.1, 48, .inl x_spoken))] := hD
  refine lv_if_eq (tgt := 38) hx hb dX9_calls_6 (by decide) (fun hc => ?_) (fun hc => ?_)
  · have h := wp_t h hc
    refine lv_iconst (v := (-1)) hx hb dX9_calls_38 (by decide) ?_
    exact hret _ _ _ _ _ () rfl dX9_calls_39 h hP hD hS
  · have h := wp_f h hc
    refine lv_aload_n hx hb dX9_calls_9 rfl (lv_at hl 0 rfl) ?_
    refine lv_iload_n hx hb dX9_calls_10 rfl (lv_at hl 3 rfl) ?_
    refine kc_i (Wr := []) (va_runV (As := [.int a3]) (rest := []) Fx (MX9_isName l G x0 x1 x2 x3 x4 x5 x6 x7 x8 x9 x10 x11 x12 x_typed x_words x_known x_kept x_sights x_at x_without x_text x_told x_draft x_begun x_s x_past x_images x_seen x_seenDays x_held x_worth x_spoken a3 h H.size) (cwV 1 hts gX9_calls_X9_isName rfl rfl rfl (by decide +kernel) ⟨Nat.le_of_ble_eq_true rfl, Nat.le_of_ble_eq_true rfl⟩) (kpreV hP hD hK hN [0, 1, 2, 3, 4, 5, 6, 7, 8, 9, 10, 11, 12] rfl rfl 0 rfl rfl) rfl rfl hl.1 rfl (lv_room (Nat.le_of_ble_eq_true rfl)) dX9_calls_11 ⟨Nat.le_of_ble_eq_true rfl, Nat.le_of_ble_eq_true rfl⟩) hP hD hS hA [0, 1, 2, 3, 4, 5, 6, 7, 8, 9, 10, 11, 12] [] rfl rfl rfl (by decide +kernel) (fun r_2 u H locs h hP hD hS => ?_)
    have hP : va_P G.1 vwCl [(x0, .inr (9, [.ref x1, .int x_typed, .ref x2, .ref x3, .ref x4, .int x_words, .ref x5, .ref x6, .int x_known, .ref x7, .int x_kept, .ref x8, .ref x9, .int x_sights, .int x_at, .int x_without, .ref x10, .ref x11, .ref x12])), (x1, .inl (G.2.1, 200, .inl x_text)), (x2, .inl (G.2.1, 37, .inl x_told)), (x3, .inl (G.2.1, 37, .inl x_draft)), (x4, .inl (G.2.1, 36, .inl x_begun)), (x5, .inl (G.2.1, 86, .inl x_s)), (x6, .inl (G.2.1, 688, .inl x_past)), (x7, .inl (G.2.1, 172, .inl x_images)), (x8, .inl (G.2.1, 6, .inl x_seen)), (x9, .inl (G.2.1, 6, .inl x_seenDays)), (x10, .inl (G.2.1, 86, .inl x_held)), (x11, .inl (G.2.1, 81, .inl x_worth)), (x12, .inl (G.2.1, 48, .inl x_spoken))] H := hP
    have hD : va_D A [(x0, .inr (9, [.ref x1, .int x_typed, .ref x2, .ref x3, .ref x4, .int x_words, .ref x5, .ref x6, .int x_known, .ref x7, .int x_kept, .ref x8, .ref x9, .int x_sights, .int x_at, .int x_without, .ref x10, .ref x11, .ref x12])), (x1, .inl (G.2.1, 200, .inl x_text)), (x2, .inl (G.2.1, 37, .inl x_told)), (x3, .inl (G.2.1, 37, .inl x_draft)), (x4, .inl (G.2.1, 36, .inl x_begun)), (x5, .inl (G.2.1, 86, .inl x_s)), (x6, .inl (G.2.1, 688, .inl x_past)), (x7, .inl (G.2.1, 172, .inl x_images)), (x8, .inl (G.2.1, 6, .inl x_seen)), (x9, .inl (G.2.1, 6, .inl x_seenDays)), (x10, .inl (G.2.1, 86, .inl x_held)), (x11, .inl (G.2.1, 81, .inl x_worth)), (x12, .inl (G.2.1, 48, .inl x_spoken))] := hD
    refine lv_if_eq (tgt := 38) hx hb dX9_calls_14 (by decide) (fun hc => ?_) (fun hc => ?_)
    · have h := wp_t h hc
      refine lv_iconst (v := (-1)) hx hb dX9_calls_38 (by decide) ?_
      exact hret _ _ _ _ _ () rfl dX9_calls_39 h hP hD hS
    · have h := wp_f h hc
      refine lv_aload_n hx hb dX9_calls_17 rfl (lv_at hl 0 rfl) ?_
      refine va_get (D := G.1) (ci := 9) (v := .ref x5) (C := RX9) (T := TX9) (N := 19) hx hb hts hiX9 hown hK hP 0 rfl rfl 6 (by decide) (hts (.fieldLink RX9 22 "LodgingNamesModel" "s" "[I") (by decide +kernel)) (fun _ h9 => h9) rfl dX9_calls_18 ?_
      refine lv_bipush (v := 48) hx hb dX9_calls_21 (by decide) ?_
      refine lv_bipush (v := 6) hx hb dX9_calls_23 (by decide) ?_
      refine lv_iload_n hx hb dX9_calls_25 rfl (lv_at hl 1 rfl) ?_
      refine lv_imul hx hb dX9_calls_26 ?_
      refine lv_iadd hx hb dX9_calls_27 ?_
      refine lv_iload_n hx hb dX9_calls_28 rfl (lv_at hl 2 rfl) ?_
      refine lv_iadd hx hb dX9_calls_29 ?_
      obtain ⟨hin, h⟩ := h
      refine va_iald hx hb hK hP 5 0 rfl rfl hin dX9_calls_30 ?_
      refine lv_iload_n hx hb dX9_calls_31 rfl (lv_at hl 3 rfl) ?_
      refine lv_ishr hx hb dX9_calls_32 ?_
      refine lv_iconst (v := 1) hx hb dX9_calls_33 (by decide) ?_
      refine lv_iand hx hb dX9_calls_34 ?_
      refine lv_goto (tgt := 39) hx hb dX9_calls_35 (by decide) ?_
      exact hret _ _ _ _ _ () rfl dX9_calls_39 h hP hD hS

abbrev rmX9_quarrels : Room := { frames := 1, cells := 0, slots := 0, locals := 22 }
set_option maxHeartbeats 4000000 in
set_option maxRecDepth 100000 in
theorem MX9_quarrels (l : Launch) (G : kG) (x0 x1 x2 x3 x4 x5 x6 x7 x8 x9 x10 x11 x12 : Nat) (x_typed : Int32) (x_words : Int32) (x_known : Int32) (x_kept : Int32) (x_sights : Int32) (x_at : Int32) (x_without : Int32) (x_text : Nat → Int32) (x_told : Nat → Int32) (x_draft : Nat → Int32) (x_begun : Nat → Int32) (x_s : Nat → Int32) (x_past : Nat → Int32) (x_images : Nat → Int32) (x_seen : Nat → Int32) (x_seenDays : Nat → Int32) (x_held : Nat → Int32) (x_worth : Nat → Int32) (x_spoken : Nat → Int32) (a1 : Int32) (a2 : Int32) {K : Int32 → Prop} (h : wpX9_quarrels x_told a1 a2 K) : kI l G yX9_quarrels wsX9_quarrels rmX9_quarrels [.ref x0, .int a1, .int a2] [(x0, .inr (9, [.ref x1, .int x_typed, .ref x2, .ref x3, .ref x4, .int x_words, .ref x5, .ref x6, .int x_known, .ref x7, .int x_kept, .ref x8, .ref x9, .int x_sights, .int x_at, .int x_without, .ref x10, .ref x11, .ref x12])), (x1, .inl (G.2.1, 200, .inl x_text)), (x2, .inl (G.2.1, 37, .inl x_told)), (x3, .inl (G.2.1, 37, .inl x_draft)), (x4, .inl (G.2.1, 36, .inl x_begun)), (x5, .inl (G.2.1, 86, .inl x_s)), (x6, .inl (G.2.1, 688, .inl x_past)), (x7, .inl (G.2.1, 172, .inl x_images)), (x8, .inl (G.2.1, 6, .inl x_seen)), (x9, .inl (G.2.1, 6, .inl x_seenDays)), (x10, .inl (G.2.1, 86, .inl x_held)), (x11, .inl (G.2.1, 81, .inl x_worth)), (x12, .inl (G.2.1, 48, .inl x_spoken))] (S := Unit) (fun _ => [(x0, .inr (9, [.ref x1, .int x_typed, .ref x2, .ref x3, .ref x4, .int x_words, .ref x5, .ref x6, .int x_known, .ref x7, .int x_kept, .ref x8, .ref x9, .int x_sights, .int x_at, .int x_without, .ref x10, .ref x11, .ref x12])), (x1, .inl (G.2.1, 200, .inl x_text)), (x2, .inl (G.2.1, 37, .inl x_told)), (x3, .inl (G.2.1, 37, .inl x_draft)), (x4, .inl (G.2.1, 36, .inl x_begun)), (x5, .inl (G.2.1, 86, .inl x_s)), (x6, .inl (G.2.1, 688, .inl x_past)), (x7, .inl (G.2.1, 172, .inl x_images)), (x8, .inl (G.2.1, 6, .inl x_seen)), (x9, .inl (G.2.1, 6, .inl x_seenDays)), (x10, .inl (G.2.1, 86, .inl x_held)), (x11, .inl (G.2.1, 81, .inl x_worth)), (x12, .inl (G.2.1, 48, .inl x_spoken))]) (fun r u => K r) 0 0 := by
  refine kI_of (cc := cX9_quarrels) (maxL := 4) (ret := .boolean) (by decide) rfl (Nat.le_of_ble_eq_true rfl) ?_
  intro p e s m below meth c Q A ls Fx hK hN hA hnm hret hP hD hl hS
  obtain ⟨hx, hb, hml, hown, hts⟩ := id Fx
  have hown : s.vm.findClass RX9 = some m.cls := hown
  have hl : lv_has ls 4 [(0, .ref x0), (1, .int a1), (2, .int a2)] := hl
  have hiX9 : ∀ w ∈ u_ws RX9 TX9 19, w ∈ wsX9_quarrels := by decide +kernel
  unfold wpX9_quarrels at h
  refine lv_aload_n hx hb dX9_quarrels_0 rfl (lv_at hl 0 rfl) ?_
  refine va_get (D := G.1) (ci := 9) (v := .ref x2) (C := RX9) (T := TX9) (N := 19) hx hb hts hiX9 hown hK hP 0 rfl rfl 2 (by decide) (hts (.fieldLink RX9 13 "LodgingNamesModel" "told" "[I") (by decide +kernel)) (fun _ h9 => h9) rfl dX9_quarrels_1 ?_
  refine lv_bipush (v := 21) hx hb dX9_quarrels_4 (by decide) ?_
  refine lv_iload_n hx hb dX9_quarrels_6 rfl (lv_at hl 1 rfl) ?_
  refine lv_iadd hx hb dX9_quarrels_7 ?_
  obtain ⟨hin, h⟩ := h
  refine va_iald hx hb hK hP 2 0 rfl rfl hin dX9_quarrels_8 ?_
  refine lv_aload_n hx hb dX9_quarrels_9 rfl (lv_at hl 0 rfl) ?_
  refine va_get (D := G.1) (ci := 9) (v := .ref x2) (C := RX9) (T := TX9) (N := 19) hx hb hts hiX9 hown hK hP 0 rfl rfl 2 (by decide) (hts (.fieldLink RX9 13 "LodgingNamesModel" "told" "[I") (by decide +kernel)) (fun _ h9 => h9) rfl dX9_quarrels_10 ?_
  refine lv_bipush (v := 21) hx hb dX9_quarrels_13 (by decide) ?_
  refine lv_iload_n hx hb dX9_quarrels_15 rfl (lv_at hl 2 rfl) ?_
  refine lv_iadd hx hb dX9_quarrels_16 ?_
  obtain ⟨hin, h⟩ := h
  refine va_iald hx hb hK hP 2 0 rfl rfl hin dX9_quarrels_17 ?_
  refine lv_isub hx hb dX9_quarrels_18 ?_
  refine lv_topi (fun x_1 ex_1 => ?_)
  have h := h x_1 ex_1
  refine lv_istore_n (lv' := [(3, .int x_1), (0, .ref x0), (1, .int a1), (2, .int a2)]) hx hb dX9_quarrels_19 rfl hl (by decide) rfl (fun ls hl => ?_)
  refine lv_iload_n hx hb dX9_quarrels_20 rfl (lv_at hl 2 rfl) ?_
  refine lv_iload_n hx hb dX9_quarrels_21 rfl (lv_at hl 3 rfl) ?_
  refine lv_icmp_eq (tgt := 52) hx hb dX9_quarrels_22 (by decide) (fun hc => ?_) (fun hc => ?_)
  · have h := wp_t h hc
    refine lv_iconst (v := 0) hx hb dX9_quarrels_52 (by decide) ?_
    exact hret _ _ _ _ _ () rfl dX9_quarrels_53 h hP hD hS
  · have h := wp_f h hc
    refine lv_iload_n hx hb dX9_quarrels_25 rfl (lv_at hl 0 rfl) ?_
    refine lv_iconst (v := 1) hx hb dX9_quarrels_26 (by decide) ?_
    refine lv_aload_n hx hb dX9_quarrels_27 rfl (lv_at hl 1 rfl) ?_
    refine va_get (D := G.1) (ci := 9) (v := .ref x2) (C := RX9) (T := TX9) (N := 19) hx hb hts hiX9 hown hK hP 0 rfl rfl 2 (by decide) (hts (.fieldLink RX9 13 "LodgingNamesModel" "told" "[I") (by decide +kernel)) (fun _ h9 => h9) rfl dX9_quarrels_28 ?_
    refine lv_iconst (v := 2) hx hb dX9_quarrels_31 (by decide) ?_
    obtain ⟨hin, h⟩ := h
    refine va_iald hx hb hK hP 2 0 rfl rfl hin dX9_quarrels_32 ?_
    refine lv_isub hx hb dX9_quarrels_33 ?_
    refine lv_aload_n hx hb dX9_quarrels_34 rfl (lv_at hl 1 rfl) ?_
    refine va_get (D := G.1) (ci := 9) (v := .ref x2) (C := RX9) (T := TX9) (N := 19) hx hb hts hiX9 hown hK hP 0 rfl rfl 2 (by decide) (hts (.fieldLink RX9 13 "LodgingNamesModel" "told" "[I") (by decide +kernel)) (fun _ h9 => h9) rfl dX9_quarrels_35 ?_
    refine lv_iconst (v := 2) hx hb dX9_quarrels_38 (by decide) ?_
    obtain ⟨hin, h⟩ := h
    refine va_iald hx hb hK hP 2 0 rfl rfl hin dX9_quarrels_39 ?_
    refine lv_iconst (v := 1) hx hb dX9_quarrels_40 (by decide) ?_
    refine lv_isub hx hb dX9_quarrels_41 ?_
    refine kc_i (Wr := [(x0, .inr (9, [.ref x1, .int x_typed, .ref x2, .ref x3, .ref x4, .int x_words, .ref x5, .ref x6, .int x_known, .ref x7, .int x_kept, .ref x8, .ref x9, .int x_sights, .int x_at, .int x_without, .ref x10, .ref x11, .ref x12])), (x1, .inl (G.2.1, 200, .inl x_text)), (x2, .inl (G.2.1, 37, .inl x_told)), (x3, .inl (G.2.1, 37, .inl x_draft)), (x4, .inl (G.2.1, 36, .inl x_begun)), (x5, .inl (G.2.1, 86, .inl x_s)), (x6, .inl (G.2.1, 688, .inl x_past)), (x7, .inl (G.2.1, 172, .inl x_images)), (x8, .inl (G.2.1, 6, .inl x_seen)), (x9, .inl (G.2.1, 6, .inl x_seenDays)), (x10, .inl (G.2.1, 86, .inl x_held)), (x11, .inl (G.2.1, 81, .inl x_worth)), (x12, .inl (G.2.1, 48, .inl x_spoken))]) (va_runS (As := [.int x_1, .int (1 - (x_told (Int32.toNatClampNeg 2))), .int ((x_told (Int32.toNatClampNeg 2)) - 1)]) (rest := []) Fx (MX9_in l G x_1 (1 - (x_told (Int32.toNatClampNeg 2))) ((x_told (Int32.toNatClampNeg 2)) - 1) h s.heap.size) (va_cwS 3 hts gX9_quarrels_X9_in rfl rfl rfl (by decide +kernel) ⟨Nat.le_of_ble_eq_true rfl, Nat.le_of_ble_eq_true rfl⟩) (kpreS hP hD hK hN [] rfl rfl) rfl rfl hl.1 rfl (lv_room (Nat.le_of_ble_eq_true rfl)) dX9_quarrels_42 ⟨Nat.le_of_ble_eq_true rfl, Nat.le_of_ble_eq_true rfl⟩) hP hD hS hA [] [0, 1, 2, 3, 4, 5, 6, 7, 8, 9, 10, 11, 12] rfl rfl rfl (by decide +kernel) (fun r_2 u H locs h hP hD hS => ?_)
    have hP : va_P G.1 vwCl [(x0, .inr (9, [.ref x1, .int x_typed, .ref x2, .ref x3, .ref x4, .int x_words, .ref x5, .ref x6, .int x_known, .ref x7, .int x_kept, .ref x8, .ref x9, .int x_sights, .int x_at, .int x_without, .ref x10, .ref x11, .ref x12])), (x1, .inl (G.2.1, 200, .inl x_text)), (x2, .inl (G.2.1, 37, .inl x_told)), (x3, .inl (G.2.1, 37, .inl x_draft)), (x4, .inl (G.2.1, 36, .inl x_begun)), (x5, .inl (G.2.1, 86, .inl x_s)), (x6, .inl (G.2.1, 688, .inl x_past)), (x7, .inl (G.2.1, 172, .inl x_images)), (x8, .inl (G.2.1, 6, .inl x_seen)), (x9, .inl (G.2.1, 6, .inl x_seenDays)), (x10, .inl (G.2.1, 86, .inl x_held)), (x11, .inl (G.2.1, 81, .inl x_worth)), (x12, .inl (G.2.1, 48, .inl x_spoken))] H := hP
    have hD : va_D A [(x0, .inr (9, [.ref x1, .int x_typed, .ref x2, .ref x3, .ref x4, .int x_words, .ref x5, .ref x6, .int x_known, .ref x7, .int x_kept, .ref x8, .ref x9, .int x_sights, .int x_at, .int x_without, .ref x10, .ref x11, .ref x12])), (x1, .inl (G.2.1, 200, .inl x_text)), (x2, .inl (G.2.1, 37, .inl x_told)), (x3, .inl (G.2.1, 37, .inl x_draft)), (x4, .inl (G.2.1, 36, .inl x_begun)), (x5, .inl (G.2.1, 86, .inl x_s)), (x6, .inl (G.2.1, 688, .inl x_past)), (x7, .inl (G.2.1, 172, .inl x_images)), (x8, .inl (G.2.1, 6, .inl x_seen)), (x9, .inl (G.2.1, 6, .inl x_seenDays)), (x10, .inl (G.2.1, 86, .inl x_held)), (x11, .inl (G.2.1, 81, .inl x_worth)), (x12, .inl (G.2.1, 48, .inl x_spoken))] := hD
    refine lv_if_ne (tgt := 52) hx hb dX9_quarrels_45 (by decide) (fun hc => ?_) (fun hc => ?_)
    · have h := wp_f h hc
      refine lv_iconst (v := 0) hx hb dX9_quarrels_52 (by decide) ?_
      exact hret _ _ _ _ _ () rfl dX9_quarrels_53 h hP hD hS
    · have h := wp_t h hc
      refine lv_iconst (v := 1) hx hb dX9_quarrels_48 (by decide) ?_
      refine lv_goto (tgt := 53) hx hb dX9_quarrels_49 (by decide) ?_
      exact hret _ _ _ _ _ () rfl dX9_quarrels_53 h hP hD hS

abbrev rmX9_thins : Room := { frames := 0, cells := 0, slots := 0, locals := 0 }
set_option maxHeartbeats 4000000 in
set_option maxRecDepth 100000 in
theorem MX9_thins (l : Launch) (G : kG) (x0 x1 x2 x3 x4 x5 x6 x7 x8 x9 x10 x11 x12 : Nat) (x_typed : Int32) (x_words : Int32) (x_known : Int32) (x_kept : Int32) (x_sights : Int32) (x_at : Int32) (x_without : Int32) (x_text : Nat → Int32) (x_told : Nat → Int32) (x_draft : Nat → Int32) (x_begun : Nat → Int32) (x_s : Nat → Int32) (x_past : Nat → Int32) (x_images : Nat → Int32) (x_seen : Nat → Int32) (x_seenDays : Nat → Int32) (x_held : Nat → Int32) (x_worth : Nat → Int32) (x_spoken : Nat → Int32) (a1 : Int32) (a2 : Int32) (a3 : Int32) {K : (Nat → Int32) → Prop} (h : wpX9_thins x_s a1 a2 a3 K) : kV l G yX9_thins wsX9_thins rmX9_thins [.ref x0, .int a1, .int a2, .int a3] [(x0, .inr (9, [.ref x1, .int x_typed, .ref x2, .ref x3, .ref x4, .int x_words, .ref x5, .ref x6, .int x_known, .ref x7, .int x_kept, .ref x8, .ref x9, .int x_sights, .int x_at, .int x_without, .ref x10, .ref x11, .ref x12])), (x1, .inl (G.2.1, 200, .inl x_text)), (x2, .inl (G.2.1, 37, .inl x_told)), (x3, .inl (G.2.1, 37, .inl x_draft)), (x4, .inl (G.2.1, 36, .inl x_begun)), (x5, .inl (G.2.1, 86, .inl x_s)), (x6, .inl (G.2.1, 688, .inl x_past)), (x7, .inl (G.2.1, 172, .inl x_images)), (x8, .inl (G.2.1, 6, .inl x_seen)), (x9, .inl (G.2.1, 6, .inl x_seenDays)), (x10, .inl (G.2.1, 86, .inl x_held)), (x11, .inl (G.2.1, 81, .inl x_worth)), (x12, .inl (G.2.1, 48, .inl x_spoken))] (S := (Nat → Int32)) (fun u => [(x0, .inr (9, [.ref x1, .int x_typed, .ref x2, .ref x3, .ref x4, .int x_words, .ref x5, .ref x6, .int x_known, .ref x7, .int x_kept, .ref x8, .ref x9, .int x_sights, .int x_at, .int x_without, .ref x10, .ref x11, .ref x12])), (x1, .inl (G.2.1, 200, .inl x_text)), (x2, .inl (G.2.1, 37, .inl x_told)), (x3, .inl (G.2.1, 37, .inl x_draft)), (x4, .inl (G.2.1, 36, .inl x_begun)), (x5, .inl (G.2.1, 86, .inl u)), (x6, .inl (G.2.1, 688, .inl x_past)), (x7, .inl (G.2.1, 172, .inl x_images)), (x8, .inl (G.2.1, 6, .inl x_seen)), (x9, .inl (G.2.1, 6, .inl x_seenDays)), (x10, .inl (G.2.1, 86, .inl x_held)), (x11, .inl (G.2.1, 81, .inl x_worth)), (x12, .inl (G.2.1, 48, .inl x_spoken))]) (fun u => K u) 0 0 := by
  refine kV_of (cc := cX9_thins) (maxL := 5) (by decide) rfl (Nat.le_of_ble_eq_true rfl) ?_
  intro p e s m below meth c Q A ls Fx hK hN hA hnm hret hP hD hl hS
  obtain ⟨hx, hb, hml, hown, hts⟩ := id Fx
  have hown : s.vm.findClass RX9 = some m.cls := hown
  have hl : lv_has ls 5 [(0, .ref x0), (1, .int a1), (2, .int a2), (3, .int a3)] := hl
  have hiX9 : ∀ w ∈ u_ws RX9 TX9 19, w ∈ wsX9_thins := by decide +kernel
  unfold wpX9_thins at h
  refine lv_bipush (v := 8) hx hb dX9_thins_0 (by decide) ?_
  refine lv_iload_n hx hb dX9_thins_2 rfl (lv_at hl 1 rfl) ?_
  refine lv_imul hx hb dX9_thins_3 ?_
  refine lv_iload_n hx hb dX9_thins_4 rfl (lv_at hl 2 rfl) ?_
  refine lv_iadd hx hb dX9_thins_5 ?_
  refine lv_topi (fun x_1 ex_1 => ?_)
  have h := h x_1 ex_1
  refine lv_istore (lv' := [(4, .int x_1), (0, .ref x0), (1, .int a1), (2, .int a2), (3, .int a3)]) hx hb dX9_thins_6 hl (by decide) rfl (fun ls hl => ?_)
  refine lv_aload_n hx hb dX9_thins_8 rfl (lv_at hl 1 rfl) ?_
  refine va_get (D := G.1) (ci := 9) (v := .ref x5) (C := RX9) (T := TX9) (N := 19) hx hb hts hiX9 hown hK hP 0 rfl rfl 6 (by decide) (hts (.fieldLink RX9 22 "LodgingNamesModel" "s" "[I") (by decide +kernel)) (fun _ h9 => h9) rfl dX9_thins_9 ?_
  refine lv_iload hx hb dX9_thins_12 (lv_at hl 0 rfl) ?_
  refine lv_aload_n hx hb dX9_thins_14 rfl (lv_at hl 1 rfl) ?_
  refine va_get (D := G.1) (ci := 9) (v := .ref x5) (C := RX9) (T := TX9) (N := 19) hx hb hts hiX9 hown hK hP 0 rfl rfl 6 (by decide) (hts (.fieldLink RX9 22 "LodgingNamesModel" "s" "[I") (by decide +kernel)) (fun _ h9 => h9) rfl dX9_thins_15 ?_
  refine lv_iload hx hb dX9_thins_18 (lv_at hl 0 rfl) ?_
  obtain ⟨hin, h⟩ := h
  refine va_iald hx hb hK hP 5 0 rfl rfl hin dX9_thins_20 ?_
  refine lv_iload_n hx hb dX9_thins_21 rfl (lv_at hl 4 rfl) ?_
  have h := h (fun (v_2 : Int32) => ∀ (H : Heap) (locs : List Loc) (ls : Array Slot), va_P G.1 vwCl [(x0, .inr (9, [.ref x1, .int x_typed, .ref x2, .ref x3, .ref x4, .int x_words, .ref x5, .ref x6, .int x_known, .ref x7, .int x_kept, .ref x8, .ref x9, .int x_sights, .int x_at, .int x_without, .ref x10, .ref x11, .ref x12])), (x1, .inl (G.2.1, 200, .inl x_text)), (x2, .inl (G.2.1, 37, .inl x_told)), (x3, .inl (G.2.1, 37, .inl x_draft)), (x4, .inl (G.2.1, 36, .inl x_begun)), (x5, .inl (G.2.1, 86, .inl x_s)), (x6, .inl (G.2.1, 688, .inl x_past)), (x7, .inl (G.2.1, 172, .inl x_images)), (x8, .inl (G.2.1, 6, .inl x_seen)), (x9, .inl (G.2.1, 6, .inl x_seenDays)), (x10, .inl (G.2.1, 86, .inl x_held)), (x11, .inl (G.2.1, 81, .inl x_worth)), (x12, .inl (G.2.1, 48, .inl x_spoken))] H → va_D A [(x0, .inr (9, [.ref x1, .int x_typed, .ref x2, .ref x3, .ref x4, .int x_words, .ref x5, .ref x6, .int x_known, .ref x7, .int x_kept, .ref x8, .ref x9, .int x_sights, .int x_at, .int x_without, .ref x10, .ref x11, .ref x12])), (x1, .inl (G.2.1, 200, .inl x_text)), (x2, .inl (G.2.1, 37, .inl x_told)), (x3, .inl (G.2.1, 37, .inl x_draft)), (x4, .inl (G.2.1, 36, .inl x_begun)), (x5, .inl (G.2.1, 86, .inl x_s)), (x6, .inl (G.2.1, 688, .inl x_past)), (x7, .inl (G.2.1, 172, .inl x_images)), (x8, .inl (G.2.1, 6, .inl x_seen)), (x9, .inl (G.2.1, 6, .inl x_seenDays)), (x10, .inl (G.2.1, 86, .inl x_held)), (x11, .inl (G.2.1, 81, .inl x_worth)), (x12, .inl (G.2.1, 48, .inl x_spoken))] → va_S A s.heap H locs → lv_has ls 5 [] → W p l e rmX9_thins s m [.ref x0, .int a1, .int a2, .int a3].toArray below meth c H locs 0 0 Q (F0 m 38 ls [.int v_2, .int x_1, .ref x5]))
  have h := h (fun v_2 h H locs ls hP hD hS hl => by
    obtain ⟨hin, h⟩ := h
    refine va_iast hx hb hK hP hD hS 5 0 rfl rfl hin dX9_thins_38 (fun H locs hP hD hS => ?_)
    have hP : va_P G.1 vwCl [(x0, .inr (9, [.ref x1, .int x_typed, .ref x2, .ref x3, .ref x4, .int x_words, .ref x5, .ref x6, .int x_known, .ref x7, .int x_kept, .ref x8, .ref x9, .int x_sights, .int x_at, .int x_without, .ref x10, .ref x11, .ref x12])), (x1, .inl (G.2.1, 200, .inl x_text)), (x2, .inl (G.2.1, 37, .inl x_told)), (x3, .inl (G.2.1, 37, .inl x_draft)), (x4, .inl (G.2.1, 36, .inl x_begun)), (x5, .inl (G.2.1, 86, .inl (upd x_s (Int32.toNatClampNeg x_1) v_2))), (x6, .inl (G.2.1, 688, .inl x_past)), (x7, .inl (G.2.1, 172, .inl x_images)), (x8, .inl (G.2.1, 6, .inl x_seen)), (x9, .inl (G.2.1, 6, .inl x_seenDays)), (x10, .inl (G.2.1, 86, .inl x_held)), (x11, .inl (G.2.1, 81, .inl x_worth)), (x12, .inl (G.2.1, 48, .inl x_spoken))] H := hP
    have hD : va_D A [(x0, .inr (9, [.ref x1, .int x_typed, .ref x2, .ref x3, .ref x4, .int x_words, .ref x5, .ref x6, .int x_known, .ref x7, .int x_kept, .ref x8, .ref x9, .int x_sights, .int x_at, .int x_without, .ref x10, .ref x11, .ref x12])), (x1, .inl (G.2.1, 200, .inl x_text)), (x2, .inl (G.2.1, 37, .inl x_told)), (x3, .inl (G.2.1, 37, .inl x_draft)), (x4, .inl (G.2.1, 36, .inl x_begun)), (x5, .inl (G.2.1, 86, .inl (upd x_s (Int32.toNatClampNeg x_1) v_2))), (x6, .inl (G.2.1, 688, .inl x_past)), (x7, .inl (G.2.1, 172, .inl x_images)), (x8, .inl (G.2.1, 6, .inl x_seen)), (x9, .inl (G.2.1, 6, .inl x_seenDays)), (x10, .inl (G.2.1, 86, .inl x_held)), (x11, .inl (G.2.1, 81, .inl x_worth)), (x12, .inl (G.2.1, 48, .inl x_spoken))] := hD
    exact hret _ _ _ _ ((upd x_s (Int32.toNatClampNeg x_1) v_2)) dX9_thins_39 h hP hD hS)
  refine lv_icmp_le (tgt := 37) hx hb dX9_thins_22 (by decide) (fun hc => ?_) (fun hc => ?_)
  · have h := wp_t h hc
    refine lv_iconst (v := 0) hx hb dX9_thins_37 (by decide) ?_
    exact h _ _ _ hP hD hS (lv_sub hl [] rfl)
  · have h := wp_f h hc
    refine lv_aload_n hx hb dX9_thins_25 rfl (lv_at hl 1 rfl) ?_
    refine va_get (D := G.1) (ci := 9) (v := .ref x5) (C := RX9) (T := TX9) (N := 19) hx hb hts hiX9 hown hK hP 0 rfl rfl 6 (by decide) (hts (.fieldLink RX9 22 "LodgingNamesModel" "s" "[I") (by decide +kernel)) (fun _ h9 => h9) rfl dX9_thins_26 ?_
    refine lv_iload hx hb dX9_thins_29 (lv_at hl 0 rfl) ?_
    obtain ⟨hin, h⟩ := h
    refine va_iald hx hb hK hP 5 0 rfl rfl hin dX9_thins_31 ?_
    refine lv_iload_n hx hb dX9_thins_32 rfl (lv_at hl 4 rfl) ?_
    refine lv_isub hx hb dX9_thins_33 ?_
    refine lv_goto (tgt := 38) hx hb dX9_thins_34 (by decide) ?_
    exact h _ _ _ hP hD hS (lv_sub hl [] rfl)

abbrev rmX9_kindest : Room := { frames := 0, cells := 0, slots := 0, locals := 0 }
set_option maxHeartbeats 4000000 in
set_option maxRecDepth 100000 in
theorem MX9_kindest (l : Launch) (G : kG) (x0 x1 x2 x3 x4 x5 x6 x7 x8 x9 x10 x11 x12 : Nat) (x_typed : Int32) (x_words : Int32) (x_known : Int32) (x_kept : Int32) (x_sights : Int32) (x_at : Int32) (x_without : Int32) (x_text : Nat → Int32) (x_told : Nat → Int32) (x_draft : Nat → Int32) (x_begun : Nat → Int32) (x_s : Nat → Int32) (x_past : Nat → Int32) (x_images : Nat → Int32) (x_seen : Nat → Int32) (x_seenDays : Nat → Int32) (x_held : Nat → Int32) (x_worth : Nat → Int32) (x_spoken : Nat → Int32) (a1 : Int32) {K : Int32 → Prop} (h : wpX9_kindest x_told x_s a1 K) : kI l G yX9_kindest wsX9_kindest rmX9_kindest [.ref x0, .int a1] [(x0, .inr (9, [.ref x1, .int x_typed, .ref x2, .ref x3, .ref x4, .int x_words, .ref x5, .ref x6, .int x_known, .ref x7, .int x_kept, .ref x8, .ref x9, .int x_sights, .int x_at, .int x_without, .ref x10, .ref x11, .ref x12])), (x1, .inl (G.2.1, 200, .inl x_text)), (x2, .inl (G.2.1, 37, .inl x_told)), (x3, .inl (G.2.1, 37, .inl x_draft)), (x4, .inl (G.2.1, 36, .inl x_begun)), (x5, .inl (G.2.1, 86, .inl x_s)), (x6, .inl (G.2.1, 688, .inl x_past)), (x7, .inl (G.2.1, 172, .inl x_images)), (x8, .inl (G.2.1, 6, .inl x_seen)), (x9, .inl (G.2.1, 6, .inl x_seenDays)), (x10, .inl (G.2.1, 86, .inl x_held)), (x11, .inl (G.2.1, 81, .inl x_worth)), (x12, .inl (G.2.1, 48, .inl x_spoken))] (S := Unit) (fun _ => [(x0, .inr (9, [.ref x1, .int x_typed, .ref x2, .ref x3, .ref x4, .int x_words, .ref x5, .ref x6, .int x_known, .ref x7, .int x_kept, .ref x8, .ref x9, .int x_sights, .int x_at, .int x_without, .ref x10, .ref x11, .ref x12])), (x1, .inl (G.2.1, 200, .inl x_text)), (x2, .inl (G.2.1, 37, .inl x_told)), (x3, .inl (G.2.1, 37, .inl x_draft)), (x4, .inl (G.2.1, 36, .inl x_begun)), (x5, .inl (G.2.1, 86, .inl x_s)), (x6, .inl (G.2.1, 688, .inl x_past)), (x7, .inl (G.2.1, 172, .inl x_images)), (x8, .inl (G.2.1, 6, .inl x_seen)), (x9, .inl (G.2.1, 6, .inl x_seenDays)), (x10, .inl (G.2.1, 86, .inl x_held)), (x11, .inl (G.2.1, 81, .inl x_worth)), (x12, .inl (G.2.1, 48, .inl x_spoken))]) (fun r u => K r) 0 0 := by
  refine kI_of (cc := cX9_kindest) (maxL := 4) (ret := .int) (by decide) rfl (Nat.le_of_ble_eq_true rfl) ?_
  intro p e s m below meth c Q A ls Fx hK hN hA hnm hret hP hD hl hS
  obtain ⟨hx, hb, hml, hown, hts⟩ := id Fx
  have hown : s.vm.findClass RX9 = some m.cls := hown
  have hl : lv_has ls 4 [(0, .ref x0), (1, .int a1)] := hl
  have hiX9 : ∀ w ∈ u_ws RX9 TX9 19, w ∈ wsX9_kindest := by decide +kernel
  unfold wpX9_kindest at h
  refine lv_iconst (v := (-1)) hx hb dX9_kindest_0 (by decide) ?_
  refine lv_istore_n (lv' := [(2, .int (-1)), (0, .ref x0), (1, .int a1)]) hx hb dX9_kindest_1 rfl hl (by decide) rfl (fun ls hl => ?_)
  refine lv_iconst (v := 0) hx hb dX9_kindest_2 (by decide) ?_
  refine lv_istore_n (lv' := [(3, .int 0), (2, .int (-1)), (0, .ref x0), (1, .int a1)]) hx hb dX9_kindest_3 rfl hl (by decide) rfl (fun ls hl => ?_)
  have h := h (fun (v_1 : Int32) (v_2 : Int32) => ∀ (H : Heap) (locs : List Loc) (ls : Array Slot), va_P G.1 vwCl [(x0, .inr (9, [.ref x1, .int x_typed, .ref x2, .ref x3, .ref x4, .int x_words, .ref x5, .ref x6, .int x_known, .ref x7, .int x_kept, .ref x8, .ref x9, .int x_sights, .int x_at, .int x_without, .ref x10, .ref x11, .ref x12])), (x1, .inl (G.2.1, 200, .inl x_text)), (x2, .inl (G.2.1, 37, .inl x_told)), (x3, .inl (G.2.1, 37, .inl x_draft)), (x4, .inl (G.2.1, 36, .inl x_begun)), (x5, .inl (G.2.1, 86, .inl x_s)), (x6, .inl (G.2.1, 688, .inl x_past)), (x7, .inl (G.2.1, 172, .inl x_images)), (x8, .inl (G.2.1, 6, .inl x_seen)), (x9, .inl (G.2.1, 6, .inl x_seenDays)), (x10, .inl (G.2.1, 86, .inl x_held)), (x11, .inl (G.2.1, 81, .inl x_worth)), (x12, .inl (G.2.1, 48, .inl x_spoken))] H → va_D A [(x0, .inr (9, [.ref x1, .int x_typed, .ref x2, .ref x3, .ref x4, .int x_words, .ref x5, .ref x6, .int x_known, .ref x7, .int x_kept, .ref x8, .ref x9, .int x_sights, .int x_at, .int x_without, .ref x10, .ref x11, .ref x12])), (x1, .inl (G.2.1, 200, .inl x_text)), (x2, .inl (G.2.1, 37, .inl x_told)), (x3, .inl (G.2.1, 37, .inl x_draft)), (x4, .inl (G.2.1, 36, .inl x_begun)), (x5, .inl (G.2.1, 86, .inl x_s)), (x6, .inl (G.2.1, 688, .inl x_past)), (x7, .inl (G.2.1, 172, .inl x_images)), (x8, .inl (G.2.1, 6, .inl x_seen)), (x9, .inl (G.2.1, 6, .inl x_seenDays)), (x10, .inl (G.2.1, 86, .inl x_held)), (x11, .inl (G.2.1, 81, .inl x_worth)), (x12, .inl (G.2.1, 48, .inl x_spoken))] → va_S A s.heap H locs → lv_has ls 4 [(0, .ref x0), (1, .int a1), (2, .int v_1), (3, .int v_2)] → W p l e rmX9_kindest s m [.ref x0, .int a1].toArray below meth c H locs 0 0 Q (F0 m 4 ls []))
  have h := h (fun v_1 v_2 h H locs ls hP hD hS hl => by
    refine lv_iload_n hx hb dX9_kindest_4 rfl (lv_at hl 3 rfl) ?_
    refine lv_aload_n hx hb dX9_kindest_5 rfl (lv_at hl 0 rfl) ?_
    refine va_get (D := G.1) (ci := 9) (v := .ref x2) (C := RX9) (T := TX9) (N := 19) hx hb hts hiX9 hown hK hP 0 rfl rfl 2 (by decide) (hts (.fieldLink RX9 13 "LodgingNamesModel" "told" "[I") (by decide +kernel)) (fun _ h9 => h9) rfl dX9_kindest_6 ?_
    refine lv_iconst (v := 1) hx hb dX9_kindest_9 (by decide) ?_
    obtain ⟨hin, h⟩ := h
    refine va_iald hx hb hK hP 2 0 rfl rfl hin dX9_kindest_10 ?_
    refine lv_icmp_ge (tgt := 65) hx hb dX9_kindest_11 (by decide) (fun hc => ?_) (fun hc => ?_)
    · have h := wp_t h hc
      refine lv_iload_n hx hb dX9_kindest_65 rfl (lv_at hl 2 rfl) ?_
      exact hret _ _ _ _ _ () rfl dX9_kindest_66 h hP hD hS
    · have h := wp_f h hc
      refine lv_aload_n hx hb dX9_kindest_14 rfl (lv_at hl 0 rfl) ?_
      refine va_get (D := G.1) (ci := 9) (v := .ref x5) (C := RX9) (T := TX9) (N := 19) hx hb hts hiX9 hown hK hP 0 rfl rfl 6 (by decide) (hts (.fieldLink RX9 22 "LodgingNamesModel" "s" "[I") (by decide +kernel)) (fun _ h9 => h9) rfl dX9_kindest_15 ?_
      refine lv_bipush (v := 8) hx hb dX9_kindest_18 (by decide) ?_
      refine lv_iload_n hx hb dX9_kindest_20 rfl (lv_at hl 1 rfl) ?_
      refine lv_imul hx hb dX9_kindest_21 ?_
      refine lv_iload_n hx hb dX9_kindest_22 rfl (lv_at hl 3 rfl) ?_
      refine lv_iadd hx hb dX9_kindest_23 ?_
      obtain ⟨hin, h⟩ := h
      refine va_iald hx hb hK hP 5 0 rfl rfl hin dX9_kindest_24 ?_
      have h := h (fun (v_3 : Int32) => ∀ (H : Heap) (locs : List Loc) (ls : Array Slot), va_P G.1 vwCl [(x0, .inr (9, [.ref x1, .int x_typed, .ref x2, .ref x3, .ref x4, .int x_words, .ref x5, .ref x6, .int x_known, .ref x7, .int x_kept, .ref x8, .ref x9, .int x_sights, .int x_at, .int x_without, .ref x10, .ref x11, .ref x12])), (x1, .inl (G.2.1, 200, .inl x_text)), (x2, .inl (G.2.1, 37, .inl x_told)), (x3, .inl (G.2.1, 37, .inl x_draft)), (x4, .inl (G.2.1, 36, .inl x_begun)), (x5, .inl (G.2.1, 86, .inl x_s)), (x6, .inl (G.2.1, 688, .inl x_past)), (x7, .inl (G.2.1, 172, .inl x_images)), (x8, .inl (G.2.1, 6, .inl x_seen)), (x9, .inl (G.2.1, 6, .inl x_seenDays)), (x10, .inl (G.2.1, 86, .inl x_held)), (x11, .inl (G.2.1, 81, .inl x_worth)), (x12, .inl (G.2.1, 48, .inl x_spoken))] H → va_D A [(x0, .inr (9, [.ref x1, .int x_typed, .ref x2, .ref x3, .ref x4, .int x_words, .ref x5, .ref x6, .int x_known, .ref x7, .int x_kept, .ref x8, .ref x9, .int x_sights, .int x_at, .int x_without, .ref x10, .ref x11, .ref x12])), (x1, .inl (G.2.1, 200, .inl x_text)), (x2, .inl (G.2.1, 37, .inl x_told)), (x3, .inl (G.2.1, 37, .inl x_draft)), (x4, .inl (G.2.1, 36, .inl x_begun)), (x5, .inl (G.2.1, 86, .inl x_s)), (x6, .inl (G.2.1, 688, .inl x_past)), (x7, .inl (G.2.1, 172, .inl x_images)), (x8, .inl (G.2.1, 6, .inl x_seen)), (x9, .inl (G.2.1, 6, .inl x_seenDays)), (x10, .inl (G.2.1, 86, .inl x_held)), (x11, .inl (G.2.1, 81, .inl x_worth)), (x12, .inl (G.2.1, 48, .inl x_spoken))] → va_S A s.heap H locs → lv_has ls 4 [(0, .ref x0), (1, .int a1), (3, .int v_2)] → W p l e rmX9_kindest s m [.ref x0, .int a1].toArray below meth c H locs 0 0 Q (F0 m 58 ls [.int v_3]))
      have h := h (fun v_3 h H locs ls hP hD hS hl => by
        refine lv_istore_n (lv' := [(2, .int v_3), (0, .ref x0), (1, .int a1), (3, .int v_2)]) hx hb dX9_kindest_58 rfl hl (by decide) rfl (fun ls hl => ?_)
        refine lv_iinc (v := (v_2 + 1)) (lv' := [(3, .int (v_2 + 1)), (2, .int v_3), (0, .ref x0), (1, .int a1)]) hx hb dX9_kindest_59 hl (k := 3) rfl rfl (by decide) rfl (fun ls hl => ?_)
        refine lv_goto (tgt := 4) hx hb dX9_kindest_62 (by decide) ?_
        exact h _ _ _ hP hD hS (lv_sub hl [2, 3, 1, 0] rfl))
      have h := h (∀ (H : Heap) (locs : List Loc) (ls : Array Slot), va_P G.1 vwCl [(x0, .inr (9, [.ref x1, .int x_typed, .ref x2, .ref x3, .ref x4, .int x_words, .ref x5, .ref x6, .int x_known, .ref x7, .int x_kept, .ref x8, .ref x9, .int x_sights, .int x_at, .int x_without, .ref x10, .ref x11, .ref x12])), (x1, .inl (G.2.1, 200, .inl x_text)), (x2, .inl (G.2.1, 37, .inl x_told)), (x3, .inl (G.2.1, 37, .inl x_draft)), (x4, .inl (G.2.1, 36, .inl x_begun)), (x5, .inl (G.2.1, 86, .inl x_s)), (x6, .inl (G.2.1, 688, .inl x_past)), (x7, .inl (G.2.1, 172, .inl x_images)), (x8, .inl (G.2.1, 6, .inl x_seen)), (x9, .inl (G.2.1, 6, .inl x_seenDays)), (x10, .inl (G.2.1, 86, .inl x_held)), (x11, .inl (G.2.1, 81, .inl x_worth)), (x12, .inl (G.2.1, 48, .inl x_spoken))] H → va_D A [(x0, .inr (9, [.ref x1, .int x_typed, .ref x2, .ref x3, .ref x4, .int x_words, .ref x5, .ref x6, .int x_known, .ref x7, .int x_kept, .ref x8, .ref x9, .int x_sights, .int x_at, .int x_without, .ref x10, .ref x11, .ref x12])), (x1, .inl (G.2.1, 200, .inl x_text)), (x2, .inl (G.2.1, 37, .inl x_told)), (x3, .inl (G.2.1, 37, .inl x_draft)), (x4, .inl (G.2.1, 36, .inl x_begun)), (x5, .inl (G.2.1, 86, .inl x_s)), (x6, .inl (G.2.1, 688, .inl x_past)), (x7, .inl (G.2.1, 172, .inl x_images)), (x8, .inl (G.2.1, 6, .inl x_seen)), (x9, .inl (G.2.1, 6, .inl x_seenDays)), (x10, .inl (G.2.1, 86, .inl x_held)), (x11, .inl (G.2.1, 81, .inl x_worth)), (x12, .inl (G.2.1, 48, .inl x_spoken))] → va_S A s.heap H locs → lv_has ls 4 [(0, .ref x0), (1, .int a1), (2, .int v_1), (3, .int v_2)] → W p l e rmX9_kindest s m [.ref x0, .int a1].toArray below meth c H locs 0 0 Q (F0 m 57 ls []))
      have h := h (fun  h H locs ls hP hD hS hl => by
        refine lv_iload_n hx hb dX9_kindest_57 rfl (lv_at hl 2 rfl) ?_
        exact h _ _ _ hP hD hS (lv_sub hl [0, 1, 3] rfl))
      refine lv_if_le (tgt := 57) hx hb dX9_kindest_25 (by decide) (fun hc => ?_) (fun hc => ?_)
      · have h := wp_t h hc
        exact h _ _ _ hP hD hS (lv_sub hl [0, 1, 2, 3] rfl)
      · have h := wp_f h hc
        refine lv_iload_n hx hb dX9_kindest_28 rfl (lv_at hl 2 rfl) ?_
        have h := h (∀ (H : Heap) (locs : List Loc) (ls : Array Slot), va_P G.1 vwCl [(x0, .inr (9, [.ref x1, .int x_typed, .ref x2, .ref x3, .ref x4, .int x_words, .ref x5, .ref x6, .int x_known, .ref x7, .int x_kept, .ref x8, .ref x9, .int x_sights, .int x_at, .int x_without, .ref x10, .ref x11, .ref x12])), (x1, .inl (G.2.1, 200, .inl x_text)), (x2, .inl (G.2.1, 37, .inl x_told)), (x3, .inl (G.2.1, 37, .inl x_draft)), (x4, .inl (G.2.1, 36, .inl x_begun)), (x5, .inl (G.2.1, 86, .inl x_s)), (x6, .inl (G.2.1, 688, .inl x_past)), (x7, .inl (G.2.1, 172, .inl x_images)), (x8, .inl (G.2.1, 6, .inl x_seen)), (x9, .inl (G.2.1, 6, .inl x_seenDays)), (x10, .inl (G.2.1, 86, .inl x_held)), (x11, .inl (G.2.1, 81, .inl x_worth)), (x12, .inl (G.2.1, 48, .inl x_spoken))] H → va_D A [(x0, .inr (9, [.ref x1, .int x_typed, .ref x2, .ref x3, .ref x4, .int x_words, .ref x5, .ref x6, .int x_known, .ref x7, .int x_kept, .ref x8, .ref x9, .int x_sights, .int x_at, .int x_without, .ref x10, .ref x11, .ref x12])), (x1, .inl (G.2.1, 200, .inl x_text)), (x2, .inl (G.2.1, 37, .inl x_told)), (x3, .inl (G.2.1, 37, .inl x_draft)), (x4, .inl (G.2.1, 36, .inl x_begun)), (x5, .inl (G.2.1, 86, .inl x_s)), (x6, .inl (G.2.1, 688, .inl x_past)), (x7, .inl (G.2.1, 172, .inl x_images)), (x8, .inl (G.2.1, 6, .inl x_seen)), (x9, .inl (G.2.1, 6, .inl x_seenDays)), (x10, .inl (G.2.1, 86, .inl x_held)), (x11, .inl (G.2.1, 81, .inl x_worth)), (x12, .inl (G.2.1, 48, .inl x_spoken))] → va_S A s.heap H locs → lv_has ls 4 [(0, .ref x0), (1, .int a1), (3, .int v_2)] → W p l e rmX9_kindest s m [.ref x0, .int a1].toArray below meth c H locs 0 0 Q (F0 m 53 ls []))
        have h := h (fun  h H locs ls hP hD hS hl => by
          refine lv_iload_n hx hb dX9_kindest_53 rfl (lv_at hl 2 rfl) ?_
          refine lv_goto (tgt := 58) hx hb dX9_kindest_54 (by decide) ?_
          exact h _ _ _ hP hD hS (lv_sub hl [0, 1, 2] rfl))
        refine lv_if_lt (tgt := 53) hx hb dX9_kindest_29 (by decide) (fun hc => ?_) (fun hc => ?_)
        · have h := wp_t h hc
          exact h _ _ _ hP hD hS (lv_sub hl [0, 1, 3] rfl)
        · have h := wp_f h hc
          refine lv_aload_n hx hb dX9_kindest_32 rfl (lv_at hl 0 rfl) ?_
          refine va_get (D := G.1) (ci := 9) (v := .ref x2) (C := RX9) (T := TX9) (N := 19) hx hb hts hiX9 hown hK hP 0 rfl rfl 2 (by decide) (hts (.fieldLink RX9 13 "LodgingNamesModel" "told" "[I") (by decide +kernel)) (fun _ h9 => h9) rfl dX9_kindest_33 ?_
          refine lv_bipush (v := 21) hx hb dX9_kindest_36 (by decide) ?_
          refine lv_iload_n hx hb dX9_kindest_38 rfl (lv_at hl 3 rfl) ?_
          refine lv_iadd hx hb dX9_kindest_39 ?_
          obtain ⟨hin, h⟩ := h
          refine va_iald hx hb hK hP 2 0 rfl rfl hin dX9_kindest_40 ?_
          refine lv_aload_n hx hb dX9_kindest_41 rfl (lv_at hl 0 rfl) ?_
          refine va_get (D := G.1) (ci := 9) (v := .ref x2) (C := RX9) (T := TX9) (N := 19) hx hb hts hiX9 hown hK hP 0 rfl rfl 2 (by decide) (hts (.fieldLink RX9 13 "LodgingNamesModel" "told" "[I") (by decide +kernel)) (fun _ h9 => h9) rfl dX9_kindest_42 ?_
          refine lv_bipush (v := 21) hx hb dX9_kindest_45 (by decide) ?_
          refine lv_iload_n hx hb dX9_kindest_47 rfl (lv_at hl 2 rfl) ?_
          refine lv_iadd hx hb dX9_kindest_48 ?_
          obtain ⟨hin, h⟩ := h
          refine va_iald hx hb hK hP 2 0 rfl rfl hin dX9_kindest_49 ?_
          refine lv_icmp_gt (tgt := 57) hx hb dX9_kindest_50 (by decide) (fun hc => ?_) (fun hc => ?_)
          · have h := wp_t h hc
            exact h _ _ _ hP hD hS (lv_sub hl [0, 1, 2, 3] rfl)
          · have h := wp_f h hc
            exact h _ _ _ hP hD hS (lv_sub hl [0, 1, 3] rfl))
  exact h _ _ _ hP hD hS (lv_sub hl [2, 3, 1, 0] rfl)

abbrev rmX9_saidBy : Room := { frames := 0, cells := 0, slots := 0, locals := 0 }
set_option maxHeartbeats 4000000 in
set_option maxRecDepth 100000 in
theorem MX9_saidBy (l : Launch) (G : kG) (x0 x1 x2 x3 x4 x5 x6 x7 x8 x9 x10 x11 x12 : Nat) (x_typed : Int32) (x_words : Int32) (x_known : Int32) (x_kept : Int32) (x_sights : Int32) (x_at : Int32) (x_without : Int32) (x_text : Nat → Int32) (x_told : Nat → Int32) (x_draft : Nat → Int32) (x_begun : Nat → Int32) (x_s : Nat → Int32) (x_past : Nat → Int32) (x_images : Nat → Int32) (x_seen : Nat → Int32) (x_seenDays : Nat → Int32) (x_held : Nat → Int32) (x_worth : Nat → Int32) (x_spoken : Nat → Int32) (a1 : Int32) (a2 : Int32) {K : Int32 → Prop} (h : wpX9_saidBy x_told x_s a1 a2 K) : kI l G yX9_saidBy wsX9_saidBy rmX9_saidBy [.ref x0, .int a1, .int a2] [(x0, .inr (9, [.ref x1, .int x_typed, .ref x2, .ref x3, .ref x4, .int x_words, .ref x5, .ref x6, .int x_known, .ref x7, .int x_kept, .ref x8, .ref x9, .int x_sights, .int x_at, .int x_without, .ref x10, .ref x11, .ref x12])), (x1, .inl (G.2.1, 200, .inl x_text)), (x2, .inl (G.2.1, 37, .inl x_told)), (x3, .inl (G.2.1, 37, .inl x_draft)), (x4, .inl (G.2.1, 36, .inl x_begun)), (x5, .inl (G.2.1, 86, .inl x_s)), (x6, .inl (G.2.1, 688, .inl x_past)), (x7, .inl (G.2.1, 172, .inl x_images)), (x8, .inl (G.2.1, 6, .inl x_seen)), (x9, .inl (G.2.1, 6, .inl x_seenDays)), (x10, .inl (G.2.1, 86, .inl x_held)), (x11, .inl (G.2.1, 81, .inl x_worth)), (x12, .inl (G.2.1, 48, .inl x_spoken))] (S := Unit) (fun _ => [(x0, .inr (9, [.ref x1, .int x_typed, .ref x2, .ref x3, .ref x4, .int x_words, .ref x5, .ref x6, .int x_known, .ref x7, .int x_kept, .ref x8, .ref x9, .int x_sights, .int x_at, .int x_without, .ref x10, .ref x11, .ref x12])), (x1, .inl (G.2.1, 200, .inl x_text)), (x2, .inl (G.2.1, 37, .inl x_told)), (x3, .inl (G.2.1, 37, .inl x_draft)), (x4, .inl (G.2.1, 36, .inl x_begun)), (x5, .inl (G.2.1, 86, .inl x_s)), (x6, .inl (G.2.1, 688, .inl x_past)), (x7, .inl (G.2.1, 172, .inl x_images)), (x8, .inl (G.2.1, 6, .inl x_seen)), (x9, .inl (G.2.1, 6, .inl x_seenDays)), (x10, .inl (G.2.1, 86, .inl x_held)), (x11, .inl (G.2.1, 81, .inl x_worth)), (x12, .inl (G.2.1, 48, .inl x_spoken))]) (fun r u => K r) 0 0 := by
  refine kI_of (cc := cX9_saidBy) (maxL := 5) (ret := .int) (by decide) rfl (Nat.le_of_ble_eq_true rfl) ?_
  intro p e s m below meth c Q A ls Fx hK hN hA hnm hret hP hD hl hS
  obtain ⟨hx, hb, hml, hown, hts⟩ := id Fx
  have hown : s.vm.findClass RX9 = some m.cls := hown
  have hl : lv_has ls 5 [(0, .ref x0), (1, .int a1), (2, .int a2)] := hl
  have hiX9 : ∀ w ∈ u_ws RX9 TX9 19, w ∈ wsX9_saidBy := by decide +kernel
  unfold wpX9_saidBy at h
  refine lv_iconst (v := 0) hx hb dX9_saidBy_0 (by decide) ?_
  refine lv_istore_n (lv' := [(3, .int 0), (0, .ref x0), (1, .int a1), (2, .int a2)]) hx hb dX9_saidBy_1 rfl hl (by decide) rfl (fun ls hl => ?_)
  refine lv_iconst (v := 0) hx hb dX9_saidBy_2 (by decide) ?_
  refine lv_istore (lv' := [(4, .int 0), (3, .int 0), (0, .ref x0), (1, .int a1), (2, .int a2)]) hx hb dX9_saidBy_3 hl (by decide) rfl (fun ls hl => ?_)
  have h := h (fun (v_1 : Int32) (v_2 : Int32) => ∀ (H : Heap) (locs : List Loc) (ls : Array Slot), va_P G.1 vwCl [(x0, .inr (9, [.ref x1, .int x_typed, .ref x2, .ref x3, .ref x4, .int x_words, .ref x5, .ref x6, .int x_known, .ref x7, .int x_kept, .ref x8, .ref x9, .int x_sights, .int x_at, .int x_without, .ref x10, .ref x11, .ref x12])), (x1, .inl (G.2.1, 200, .inl x_text)), (x2, .inl (G.2.1, 37, .inl x_told)), (x3, .inl (G.2.1, 37, .inl x_draft)), (x4, .inl (G.2.1, 36, .inl x_begun)), (x5, .inl (G.2.1, 86, .inl x_s)), (x6, .inl (G.2.1, 688, .inl x_past)), (x7, .inl (G.2.1, 172, .inl x_images)), (x8, .inl (G.2.1, 6, .inl x_seen)), (x9, .inl (G.2.1, 6, .inl x_seenDays)), (x10, .inl (G.2.1, 86, .inl x_held)), (x11, .inl (G.2.1, 81, .inl x_worth)), (x12, .inl (G.2.1, 48, .inl x_spoken))] H → va_D A [(x0, .inr (9, [.ref x1, .int x_typed, .ref x2, .ref x3, .ref x4, .int x_words, .ref x5, .ref x6, .int x_known, .ref x7, .int x_kept, .ref x8, .ref x9, .int x_sights, .int x_at, .int x_without, .ref x10, .ref x11, .ref x12])), (x1, .inl (G.2.1, 200, .inl x_text)), (x2, .inl (G.2.1, 37, .inl x_told)), (x3, .inl (G.2.1, 37, .inl x_draft)), (x4, .inl (G.2.1, 36, .inl x_begun)), (x5, .inl (G.2.1, 86, .inl x_s)), (x6, .inl (G.2.1, 688, .inl x_past)), (x7, .inl (G.2.1, 172, .inl x_images)), (x8, .inl (G.2.1, 6, .inl x_seen)), (x9, .inl (G.2.1, 6, .inl x_seenDays)), (x10, .inl (G.2.1, 86, .inl x_held)), (x11, .inl (G.2.1, 81, .inl x_worth)), (x12, .inl (G.2.1, 48, .inl x_spoken))] → va_S A s.heap H locs → lv_has ls 5 [(0, .ref x0), (1, .int a1), (2, .int a2), (3, .int v_1), (4, .int v_2)] → W p l e rmX9_saidBy s m [.ref x0, .int a1, .int a2].toArray below meth c H locs 0 0 Q (F0 m 5 ls []))
  have h := h (fun v_1 v_2 h H locs ls hP hD hS hl => by
    refine lv_iload hx hb dX9_saidBy_5 (lv_at hl 4 rfl) ?_
    refine lv_aload_n hx hb dX9_saidBy_7 rfl (lv_at hl 0 rfl) ?_
    refine va_get (D := G.1) (ci := 9) (v := .ref x2) (C := RX9) (T := TX9) (N := 19) hx hb hts hiX9 hown hK hP 0 rfl rfl 2 (by decide) (hts (.fieldLink RX9 13 "LodgingNamesModel" "told" "[I") (by decide +kernel)) (fun _ h9 => h9) rfl dX9_saidBy_8 ?_
    refine lv_iconst (v := 0) hx hb dX9_saidBy_11 (by decide) ?_
    obtain ⟨hin, h⟩ := h
    refine va_iald hx hb hK hP 2 0 rfl rfl hin dX9_saidBy_12 ?_
    refine lv_icmp_ge (tgt := 44) hx hb dX9_saidBy_13 (by decide) (fun hc => ?_) (fun hc => ?_)
    · have h := wp_t h hc
      refine lv_iload_n hx hb dX9_saidBy_44 rfl (lv_at hl 3 rfl) ?_
      exact hret _ _ _ _ _ () rfl dX9_saidBy_45 h hP hD hS
    · have h := wp_f h hc
      refine lv_iload_n hx hb dX9_saidBy_16 rfl (lv_at hl 3 rfl) ?_
      refine lv_aload_n hx hb dX9_saidBy_17 rfl (lv_at hl 0 rfl) ?_
      refine va_get (D := G.1) (ci := 9) (v := .ref x5) (C := RX9) (T := TX9) (N := 19) hx hb hts hiX9 hown hK hP 0 rfl rfl 6 (by decide) (hts (.fieldLink RX9 22 "LodgingNamesModel" "s" "[I") (by decide +kernel)) (fun _ h9 => h9) rfl dX9_saidBy_18 ?_
      refine lv_bipush (v := 48) hx hb dX9_saidBy_21 (by decide) ?_
      refine lv_bipush (v := 6) hx hb dX9_saidBy_23 (by decide) ?_
      refine lv_iload hx hb dX9_saidBy_25 (lv_at hl 4 rfl) ?_
      refine lv_imul hx hb dX9_saidBy_27 ?_
      refine lv_iadd hx hb dX9_saidBy_28 ?_
      refine lv_iload_n hx hb dX9_saidBy_29 rfl (lv_at hl 1 rfl) ?_
      refine lv_iadd hx hb dX9_saidBy_30 ?_
      obtain ⟨hin, h⟩ := h
      refine va_iald hx hb hK hP 5 0 rfl rfl hin dX9_saidBy_31 ?_
      refine lv_iload_n hx hb dX9_saidBy_32 rfl (lv_at hl 2 rfl) ?_
      refine lv_ishr hx hb dX9_saidBy_33 ?_
      refine lv_iconst (v := 1) hx hb dX9_saidBy_34 (by decide) ?_
      refine lv_iand hx hb dX9_saidBy_35 ?_
      refine lv_iadd hx hb dX9_saidBy_36 ?_
      refine lv_topi (fun x_3 ex_3 => ?_)
      have h := h x_3 ex_3
      refine lv_istore_n (lv' := [(3, .int x_3), (0, .ref x0), (1, .int a1), (2, .int a2), (4, .int v_2)]) hx hb dX9_saidBy_37 rfl hl (by decide) rfl (fun ls hl => ?_)
      refine lv_iinc (v := (v_2 + 1)) (lv' := [(4, .int (v_2 + 1)), (3, .int x_3), (0, .ref x0), (1, .int a1), (2, .int a2)]) hx hb dX9_saidBy_38 hl (k := 4) rfl rfl (by decide) rfl (fun ls hl => ?_)
      refine lv_goto (tgt := 5) hx hb dX9_saidBy_41 (by decide) ?_
      exact h _ _ _ hP hD hS (lv_sub hl [2, 3, 4, 1, 0] rfl))
  exact h _ _ _ hP hD hS (lv_sub hl [2, 3, 4, 1, 0] rfl)

abbrev rmX9_comes : Room := { frames := 2, cells := 0, slots := 0, locals := 45 }
set_option maxHeartbeats 4000000 in
set_option maxRecDepth 100000 in
theorem MX9_comes (l : Launch) (G : kG) (x0 x1 x2 x3 x4 x5 x6 x7 x8 x9 x10 x11 x12 : Nat) (x_typed : Int32) (x_words : Int32) (x_known : Int32) (x_kept : Int32) (x_sights : Int32) (x_at : Int32) (x_without : Int32) (x_text : Nat → Int32) (x_told : Nat → Int32) (x_draft : Nat → Int32) (x_begun : Nat → Int32) (x_s : Nat → Int32) (x_past : Nat → Int32) (x_images : Nat → Int32) (x_seen : Nat → Int32) (x_seenDays : Nat → Int32) (x_held : Nat → Int32) (x_worth : Nat → Int32) (x_spoken : Nat → Int32) (a1 : Int32) (a2 : Int32) (a3 : Int32) {K : Int32 → (Nat → Int32) → Prop} (h : wpX9_comes x_without x_told x_s a1 a2 a3 K) : kV l G yX9_comes wsX9_comes rmX9_comes [.ref x0, .int a1, .int a2, .int a3] [(x0, .inr (9, [.ref x1, .int x_typed, .ref x2, .ref x3, .ref x4, .int x_words, .ref x5, .ref x6, .int x_known, .ref x7, .int x_kept, .ref x8, .ref x9, .int x_sights, .int x_at, .int x_without, .ref x10, .ref x11, .ref x12])), (x1, .inl (G.2.1, 200, .inl x_text)), (x2, .inl (G.2.1, 37, .inl x_told)), (x3, .inl (G.2.1, 37, .inl x_draft)), (x4, .inl (G.2.1, 36, .inl x_begun)), (x5, .inl (G.2.1, 86, .inl x_s)), (x6, .inl (G.2.1, 688, .inl x_past)), (x7, .inl (G.2.1, 172, .inl x_images)), (x8, .inl (G.2.1, 6, .inl x_seen)), (x9, .inl (G.2.1, 6, .inl x_seenDays)), (x10, .inl (G.2.1, 86, .inl x_held)), (x11, .inl (G.2.1, 81, .inl x_worth)), (x12, .inl (G.2.1, 48, .inl x_spoken))] (S := (Int32) × (Nat → Int32)) (fun u => [(x0, .inr (9, [.ref x1, .int x_typed, .ref x2, .ref x3, .ref x4, .int x_words, .ref x5, .ref x6, .int x_known, .ref x7, .int x_kept, .ref x8, .ref x9, .int x_sights, .int x_at, .int u.1, .ref x10, .ref x11, .ref x12])), (x1, .inl (G.2.1, 200, .inl x_text)), (x2, .inl (G.2.1, 37, .inl x_told)), (x3, .inl (G.2.1, 37, .inl x_draft)), (x4, .inl (G.2.1, 36, .inl x_begun)), (x5, .inl (G.2.1, 86, .inl u.2)), (x6, .inl (G.2.1, 688, .inl x_past)), (x7, .inl (G.2.1, 172, .inl x_images)), (x8, .inl (G.2.1, 6, .inl x_seen)), (x9, .inl (G.2.1, 6, .inl x_seenDays)), (x10, .inl (G.2.1, 86, .inl x_held)), (x11, .inl (G.2.1, 81, .inl x_worth)), (x12, .inl (G.2.1, 48, .inl x_spoken))]) (fun u => K u.1 u.2) 0 0 := by
  refine kV_of (cc := cX9_comes) (maxL := 6) (by decide) rfl (Nat.le_of_ble_eq_true rfl) ?_
  intro p e s m below meth c Q A ls Fx hK hN hA hnm hret hP hD hl hS
  obtain ⟨hx, hb, hml, hown, hts⟩ := id Fx
  have hown : s.vm.findClass RX9 = some m.cls := hown
  have hl : lv_has ls 6 [(0, .ref x0), (1, .int a1), (2, .int a2), (3, .int a3)] := hl
  have hiX9 : ∀ w ∈ u_ws RX9 TX9 19, w ∈ wsX9_comes := by decide +kernel
  unfold wpX9_comes at h
  refine lv_iconst (v := 1) hx hb dX9_comes_0 (by decide) ?_
  refine lv_istore (lv' := [(4, .int 1), (0, .ref x0), (1, .int a1), (2, .int a2), (3, .int a3)]) hx hb dX9_comes_1 hl (by decide) rfl (fun ls hl => ?_)
  refine lv_iconst (v := 0) hx hb dX9_comes_3 (by decide) ?_
  refine lv_istore (lv' := [(5, .int 0), (4, .int 1), (0, .ref x0), (1, .int a1), (2, .int a2), (3, .int a3)]) hx hb dX9_comes_4 hl (by decide) rfl (fun ls hl => ?_)
  have h := h (fun (v_1 : Int32) (v_2 : Int32) => ∀ (H : Heap) (locs : List Loc) (ls : Array Slot), va_P G.1 vwCl [(x0, .inr (9, [.ref x1, .int x_typed, .ref x2, .ref x3, .ref x4, .int x_words, .ref x5, .ref x6, .int x_known, .ref x7, .int x_kept, .ref x8, .ref x9, .int x_sights, .int x_at, .int x_without, .ref x10, .ref x11, .ref x12])), (x1, .inl (G.2.1, 200, .inl x_text)), (x2, .inl (G.2.1, 37, .inl x_told)), (x3, .inl (G.2.1, 37, .inl x_draft)), (x4, .inl (G.2.1, 36, .inl x_begun)), (x5, .inl (G.2.1, 86, .inl x_s)), (x6, .inl (G.2.1, 688, .inl x_past)), (x7, .inl (G.2.1, 172, .inl x_images)), (x8, .inl (G.2.1, 6, .inl x_seen)), (x9, .inl (G.2.1, 6, .inl x_seenDays)), (x10, .inl (G.2.1, 86, .inl x_held)), (x11, .inl (G.2.1, 81, .inl x_worth)), (x12, .inl (G.2.1, 48, .inl x_spoken))] H → va_D A [(x0, .inr (9, [.ref x1, .int x_typed, .ref x2, .ref x3, .ref x4, .int x_words, .ref x5, .ref x6, .int x_known, .ref x7, .int x_kept, .ref x8, .ref x9, .int x_sights, .int x_at, .int x_without, .ref x10, .ref x11, .ref x12])), (x1, .inl (G.2.1, 200, .inl x_text)), (x2, .inl (G.2.1, 37, .inl x_told)), (x3, .inl (G.2.1, 37, .inl x_draft)), (x4, .inl (G.2.1, 36, .inl x_begun)), (x5, .inl (G.2.1, 86, .inl x_s)), (x6, .inl (G.2.1, 688, .inl x_past)), (x7, .inl (G.2.1, 172, .inl x_images)), (x8, .inl (G.2.1, 6, .inl x_seen)), (x9, .inl (G.2.1, 6, .inl x_seenDays)), (x10, .inl (G.2.1, 86, .inl x_held)), (x11, .inl (G.2.1, 81, .inl x_worth)), (x12, .inl (G.2.1, 48, .inl x_spoken))] → va_S A s.heap H locs → lv_has ls 6 [(0, .ref x0), (1, .int a1), (2, .int a2), (3, .int a3), (4, .int v_1), (5, .int v_2)] → W p l e rmX9_comes s m [.ref x0, .int a1, .int a2, .int a3].toArray below meth c H locs 0 0 Q (F0 m 6 ls []))
  have h := h (fun v_1 v_2 h H locs ls hP hD hS hl => by
    refine lv_iload hx hb dX9_comes_6 (lv_at hl 5 rfl) ?_
    refine lv_aload_n hx hb dX9_comes_8 rfl (lv_at hl 0 rfl) ?_
    refine va_get (D := G.1) (ci := 9) (v := .ref x2) (C := RX9) (T := TX9) (N := 19) hx hb hts hiX9 hown hK hP 0 rfl rfl 2 (by decide) (hts (.fieldLink RX9 13 "LodgingNamesModel" "told" "[I") (by decide +kernel)) (fun _ h9 => h9) rfl dX9_comes_9 ?_
    refine lv_iconst (v := 1) hx hb dX9_comes_12 (by decide) ?_
    obtain ⟨hin, h⟩ := h
    refine va_iald hx hb hK hP 2 0 rfl rfl hin dX9_comes_13 ?_
    refine lv_icmp_ge (tgt := 72) hx hb dX9_comes_14 (by decide) (fun hc => ?_) (fun hc => ?_)
    · have h := wp_t h hc
      refine lv_aload_n hx hb dX9_comes_72 rfl (lv_at hl 0 rfl) ?_
      refine lv_iload_n hx hb dX9_comes_73 rfl (lv_at hl 1 rfl) ?_
      refine kc_i (Wr := []) (va_runV (As := [.int a1]) (rest := []) Fx (MX9_kindest l G x0 x1 x2 x3 x4 x5 x6 x7 x8 x9 x10 x11 x12 x_typed x_words x_known x_kept x_sights x_at x_without x_text x_told x_draft x_begun x_s x_past x_images x_seen x_seenDays x_held x_worth x_spoken a1 h H.size) (cwV 1 hts gX9_comes_X9_kindest rfl rfl rfl (by decide +kernel) ⟨Nat.le_of_ble_eq_true rfl, Nat.le_of_ble_eq_true rfl⟩) (kpreV hP hD hK hN [0, 1, 2, 3, 4, 5, 6, 7, 8, 9, 10, 11, 12] rfl rfl 0 rfl rfl) rfl rfl hl.1 rfl (lv_room (Nat.le_of_ble_eq_true rfl)) dX9_comes_74 ⟨Nat.le_of_ble_eq_true rfl, Nat.le_of_ble_eq_true rfl⟩) hP hD hS hA [0, 1, 2, 3, 4, 5, 6, 7, 8, 9, 10, 11, 12] [] rfl rfl rfl (by decide +kernel) (fun r_3 u H locs h hP hD hS => ?_)
      have hP : va_P G.1 vwCl [(x0, .inr (9, [.ref x1, .int x_typed, .ref x2, .ref x3, .ref x4, .int x_words, .ref x5, .ref x6, .int x_known, .ref x7, .int x_kept, .ref x8, .ref x9, .int x_sights, .int x_at, .int x_without, .ref x10, .ref x11, .ref x12])), (x1, .inl (G.2.1, 200, .inl x_text)), (x2, .inl (G.2.1, 37, .inl x_told)), (x3, .inl (G.2.1, 37, .inl x_draft)), (x4, .inl (G.2.1, 36, .inl x_begun)), (x5, .inl (G.2.1, 86, .inl x_s)), (x6, .inl (G.2.1, 688, .inl x_past)), (x7, .inl (G.2.1, 172, .inl x_images)), (x8, .inl (G.2.1, 6, .inl x_seen)), (x9, .inl (G.2.1, 6, .inl x_seenDays)), (x10, .inl (G.2.1, 86, .inl x_held)), (x11, .inl (G.2.1, 81, .inl x_worth)), (x12, .inl (G.2.1, 48, .inl x_spoken))] H := hP
      have hD : va_D A [(x0, .inr (9, [.ref x1, .int x_typed, .ref x2, .ref x3, .ref x4, .int x_words, .ref x5, .ref x6, .int x_known, .ref x7, .int x_kept, .ref x8, .ref x9, .int x_sights, .int x_at, .int x_without, .ref x10, .ref x11, .ref x12])), (x1, .inl (G.2.1, 200, .inl x_text)), (x2, .inl (G.2.1, 37, .inl x_told)), (x3, .inl (G.2.1, 37, .inl x_draft)), (x4, .inl (G.2.1, 36, .inl x_begun)), (x5, .inl (G.2.1, 86, .inl x_s)), (x6, .inl (G.2.1, 688, .inl x_past)), (x7, .inl (G.2.1, 172, .inl x_images)), (x8, .inl (G.2.1, 6, .inl x_seen)), (x9, .inl (G.2.1, 6, .inl x_seenDays)), (x10, .inl (G.2.1, 86, .inl x_held)), (x11, .inl (G.2.1, 81, .inl x_worth)), (x12, .inl (G.2.1, 48, .inl x_spoken))] := hD
      refine lv_istore (lv' := [(5, .int r_3), (0, .ref x0), (1, .int a1), (2, .int a2), (3, .int a3), (4, .int v_1)]) hx hb dX9_comes_77 hl (by decide) rfl (fun ls hl => ?_)
      refine lv_iload hx hb dX9_comes_79 (lv_at hl 5 rfl) ?_
      have h := h (∀ (H : Heap) (locs : List Loc) (ls : Array Slot), va_P G.1 vwCl [(x0, .inr (9, [.ref x1, .int x_typed, .ref x2, .ref x3, .ref x4, .int x_words, .ref x5, .ref x6, .int x_known, .ref x7, .int x_kept, .ref x8, .ref x9, .int x_sights, .int x_at, .int x_without, .ref x10, .ref x11, .ref x12])), (x1, .inl (G.2.1, 200, .inl x_text)), (x2, .inl (G.2.1, 37, .inl x_told)), (x3, .inl (G.2.1, 37, .inl x_draft)), (x4, .inl (G.2.1, 36, .inl x_begun)), (x5, .inl (G.2.1, 86, .inl x_s)), (x6, .inl (G.2.1, 688, .inl x_past)), (x7, .inl (G.2.1, 172, .inl x_images)), (x8, .inl (G.2.1, 6, .inl x_seen)), (x9, .inl (G.2.1, 6, .inl x_seenDays)), (x10, .inl (G.2.1, 86, .inl x_held)), (x11, .inl (G.2.1, 81, .inl x_worth)), (x12, .inl (G.2.1, 48, .inl x_spoken))] H → va_D A [(x0, .inr (9, [.ref x1, .int x_typed, .ref x2, .ref x3, .ref x4, .int x_words, .ref x5, .ref x6, .int x_known, .ref x7, .int x_kept, .ref x8, .ref x9, .int x_sights, .int x_at, .int x_without, .ref x10, .ref x11, .ref x12])), (x1, .inl (G.2.1, 200, .inl x_text)), (x2, .inl (G.2.1, 37, .inl x_told)), (x3, .inl (G.2.1, 37, .inl x_draft)), (x4, .inl (G.2.1, 36, .inl x_begun)), (x5, .inl (G.2.1, 86, .inl x_s)), (x6, .inl (G.2.1, 688, .inl x_past)), (x7, .inl (G.2.1, 172, .inl x_images)), (x8, .inl (G.2.1, 6, .inl x_seen)), (x9, .inl (G.2.1, 6, .inl x_seenDays)), (x10, .inl (G.2.1, 86, .inl x_held)), (x11, .inl (G.2.1, 81, .inl x_worth)), (x12, .inl (G.2.1, 48, .inl x_spoken))] → va_S A s.heap H locs → lv_has ls 6 [(0, .ref x0), (1, .int a1), (2, .int a2), (3, .int a3), (4, .int v_1), (5, .int r_3)] → W p l e rmX9_comes s m [.ref x0, .int a1, .int a2, .int a3].toArray below meth c H locs 0 0 Q (F0 m 119 ls []))
      have h := h (fun  h H locs ls hP hD hS hl => by
        refine lv_iload hx hb dX9_comes_119 (lv_at hl 4 rfl) ?_
        have h := h (∀ (H : Heap) (locs : List Loc) (ls : Array Slot), va_P G.1 vwCl [(x0, .inr (9, [.ref x1, .int x_typed, .ref x2, .ref x3, .ref x4, .int x_words, .ref x5, .ref x6, .int x_known, .ref x7, .int x_kept, .ref x8, .ref x9, .int x_sights, .int x_at, .int x_without, .ref x10, .ref x11, .ref x12])), (x1, .inl (G.2.1, 200, .inl x_text)), (x2, .inl (G.2.1, 37, .inl x_told)), (x3, .inl (G.2.1, 37, .inl x_draft)), (x4, .inl (G.2.1, 36, .inl x_begun)), (x5, .inl (G.2.1, 86, .inl x_s)), (x6, .inl (G.2.1, 688, .inl x_past)), (x7, .inl (G.2.1, 172, .inl x_images)), (x8, .inl (G.2.1, 6, .inl x_seen)), (x9, .inl (G.2.1, 6, .inl x_seenDays)), (x10, .inl (G.2.1, 86, .inl x_held)), (x11, .inl (G.2.1, 81, .inl x_worth)), (x12, .inl (G.2.1, 48, .inl x_spoken))] H → va_D A [(x0, .inr (9, [.ref x1, .int x_typed, .ref x2, .ref x3, .ref x4, .int x_words, .ref x5, .ref x6, .int x_known, .ref x7, .int x_kept, .ref x8, .ref x9, .int x_sights, .int x_at, .int x_without, .ref x10, .ref x11, .ref x12])), (x1, .inl (G.2.1, 200, .inl x_text)), (x2, .inl (G.2.1, 37, .inl x_told)), (x3, .inl (G.2.1, 37, .inl x_draft)), (x4, .inl (G.2.1, 36, .inl x_begun)), (x5, .inl (G.2.1, 86, .inl x_s)), (x6, .inl (G.2.1, 688, .inl x_past)), (x7, .inl (G.2.1, 172, .inl x_images)), (x8, .inl (G.2.1, 6, .inl x_seen)), (x9, .inl (G.2.1, 6, .inl x_seenDays)), (x10, .inl (G.2.1, 86, .inl x_held)), (x11, .inl (G.2.1, 81, .inl x_worth)), (x12, .inl (G.2.1, 48, .inl x_spoken))] → va_S A s.heap H locs → lv_has ls 6 [(0, .ref x0), (1, .int a1), (2, .int a2)] → W p l e rmX9_comes s m [.ref x0, .int a1, .int a2, .int a3].toArray below meth c H locs 0 0 Q (F0 m 179 ls []))
        have h := h (fun  h H locs ls hP hD hS hl => by
          refine lv_aload_n hx hb dX9_comes_179 rfl (lv_at hl 0 rfl) ?_
          refine va_get (D := G.1) (ci := 9) (v := .ref x5) (C := RX9) (T := TX9) (N := 19) hx hb hts hiX9 hown hK hP 0 rfl rfl 6 (by decide) (hts (.fieldLink RX9 22 "LodgingNamesModel" "s" "[I") (by decide +kernel)) (fun _ h9 => h9) rfl dX9_comes_180 ?_
          refine lv_bipush (v := 85) hx hb dX9_comes_183 (by decide) ?_
          refine lv_dup2_11 hx hb dX9_comes_185 rfl rfl ?_
          obtain ⟨hin, h⟩ := h
          refine va_iald hx hb hK hP 5 0 rfl rfl hin dX9_comes_186 ?_
          refine lv_iconst (v := 1) hx hb dX9_comes_187 (by decide) ?_
          refine lv_iadd hx hb dX9_comes_188 ?_
          obtain ⟨hin, h⟩ := h
          refine va_iast hx hb hK hP hD hS 5 0 rfl rfl hin dX9_comes_189 (fun H locs hP hD hS => ?_)
          have hP : va_P G.1 vwCl [(x0, .inr (9, [.ref x1, .int x_typed, .ref x2, .ref x3, .ref x4, .int x_words, .ref x5, .ref x6, .int x_known, .ref x7, .int x_kept, .ref x8, .ref x9, .int x_sights, .int x_at, .int x_without, .ref x10, .ref x11, .ref x12])), (x1, .inl (G.2.1, 200, .inl x_text)), (x2, .inl (G.2.1, 37, .inl x_told)), (x3, .inl (G.2.1, 37, .inl x_draft)), (x4, .inl (G.2.1, 36, .inl x_begun)), (x5, .inl (G.2.1, 86, .inl (upd x_s (Int32.toNatClampNeg 85) ((x_s (Int32.toNatClampNeg 85)) + 1)))), (x6, .inl (G.2.1, 688, .inl x_past)), (x7, .inl (G.2.1, 172, .inl x_images)), (x8, .inl (G.2.1, 6, .inl x_seen)), (x9, .inl (G.2.1, 6, .inl x_seenDays)), (x10, .inl (G.2.1, 86, .inl x_held)), (x11, .inl (G.2.1, 81, .inl x_worth)), (x12, .inl (G.2.1, 48, .inl x_spoken))] H := hP
          have hD : va_D A [(x0, .inr (9, [.ref x1, .int x_typed, .ref x2, .ref x3, .ref x4, .int x_words, .ref x5, .ref x6, .int x_known, .ref x7, .int x_kept, .ref x8, .ref x9, .int x_sights, .int x_at, .int x_without, .ref x10, .ref x11, .ref x12])), (x1, .inl (G.2.1, 200, .inl x_text)), (x2, .inl (G.2.1, 37, .inl x_told)), (x3, .inl (G.2.1, 37, .inl x_draft)), (x4, .inl (G.2.1, 36, .inl x_begun)), (x5, .inl (G.2.1, 86, .inl (upd x_s (Int32.toNatClampNeg 85) ((x_s (Int32.toNatClampNeg 85)) + 1)))), (x6, .inl (G.2.1, 688, .inl x_past)), (x7, .inl (G.2.1, 172, .inl x_images)), (x8, .inl (G.2.1, 6, .inl x_seen)), (x9, .inl (G.2.1, 6, .inl x_seenDays)), (x10, .inl (G.2.1, 86, .inl x_held)), (x11, .inl (G.2.1, 81, .inl x_worth)), (x12, .inl (G.2.1, 48, .inl x_spoken))] := hD
          refine lv_aload_n hx hb dX9_comes_190 rfl (lv_at hl 0 rfl) ?_
          refine lv_aload_n hx hb dX9_comes_191 rfl (lv_at hl 0 rfl) ?_
          refine va_get (D := G.1) (ci := 9) (v := .int x_without) (C := RX9) (T := TX9) (N := 19) hx hb hts hiX9 hown hK hP 0 rfl rfl 15 (by decide) (hts (.fieldLink RX9 134 "LodgingNamesModel" "without" "I") (by decide +kernel)) (fun _ h9 => h9) rfl dX9_comes_192 ?_
          refine lv_bipush (v := (-4)) hx hb dX9_comes_195 (by decide) ?_
          have h := h (fun (v_4 : Int32) => ∀ (H : Heap) (locs : List Loc) (ls : Array Slot), va_P G.1 vwCl [(x0, .inr (9, [.ref x1, .int x_typed, .ref x2, .ref x3, .ref x4, .int x_words, .ref x5, .ref x6, .int x_known, .ref x7, .int x_kept, .ref x8, .ref x9, .int x_sights, .int x_at, .int x_without, .ref x10, .ref x11, .ref x12])), (x1, .inl (G.2.1, 200, .inl x_text)), (x2, .inl (G.2.1, 37, .inl x_told)), (x3, .inl (G.2.1, 37, .inl x_draft)), (x4, .inl (G.2.1, 36, .inl x_begun)), (x5, .inl (G.2.1, 86, .inl (upd x_s (Int32.toNatClampNeg 85) ((x_s (Int32.toNatClampNeg 85)) + 1)))), (x6, .inl (G.2.1, 688, .inl x_past)), (x7, .inl (G.2.1, 172, .inl x_images)), (x8, .inl (G.2.1, 6, .inl x_seen)), (x9, .inl (G.2.1, 6, .inl x_seenDays)), (x10, .inl (G.2.1, 86, .inl x_held)), (x11, .inl (G.2.1, 81, .inl x_worth)), (x12, .inl (G.2.1, 48, .inl x_spoken))] H → va_D A [(x0, .inr (9, [.ref x1, .int x_typed, .ref x2, .ref x3, .ref x4, .int x_words, .ref x5, .ref x6, .int x_known, .ref x7, .int x_kept, .ref x8, .ref x9, .int x_sights, .int x_at, .int x_without, .ref x10, .ref x11, .ref x12])), (x1, .inl (G.2.1, 200, .inl x_text)), (x2, .inl (G.2.1, 37, .inl x_told)), (x3, .inl (G.2.1, 37, .inl x_draft)), (x4, .inl (G.2.1, 36, .inl x_begun)), (x5, .inl (G.2.1, 86, .inl (upd x_s (Int32.toNatClampNeg 85) ((x_s (Int32.toNatClampNeg 85)) + 1)))), (x6, .inl (G.2.1, 688, .inl x_past)), (x7, .inl (G.2.1, 172, .inl x_images)), (x8, .inl (G.2.1, 6, .inl x_seen)), (x9, .inl (G.2.1, 6, .inl x_seenDays)), (x10, .inl (G.2.1, 86, .inl x_held)), (x11, .inl (G.2.1, 81, .inl x_worth)), (x12, .inl (G.2.1, 48, .inl x_spoken))] → va_S A s.heap H locs → lv_has ls 6 [] → W p l e rmX9_comes s m [.ref x0, .int a1, .int a2, .int a3].toArray below meth c H locs 0 0 Q (F0 m 213 ls [.int v_4, .ref x0]))
          have h := h (fun v_4 h H locs ls hP hD hS hl => by
            refine va_put (D := G.1) (ci := 9) (v := .int v_4) (ty := .int) (C := RX9) (T := TX9) (N := 19) hx hb hts hiX9 tyX9 tyX9_ok nmX9 hown hK hP hD hS 0 rfl rfl 15 (by decide) (hts (.fieldLink RX9 134 "LodgingNamesModel" "without" "I") (by decide +kernel)) (fun _ h9 => h9) rfl rfl rfl rfl (Nat.le_of_ble_eq_true rfl) dX9_comes_213 (fun H locs hP hD hS => ?_)
            have hP : va_P G.1 vwCl [(x0, .inr (9, [.ref x1, .int x_typed, .ref x2, .ref x3, .ref x4, .int x_words, .ref x5, .ref x6, .int x_known, .ref x7, .int x_kept, .ref x8, .ref x9, .int x_sights, .int x_at, .int v_4, .ref x10, .ref x11, .ref x12])), (x1, .inl (G.2.1, 200, .inl x_text)), (x2, .inl (G.2.1, 37, .inl x_told)), (x3, .inl (G.2.1, 37, .inl x_draft)), (x4, .inl (G.2.1, 36, .inl x_begun)), (x5, .inl (G.2.1, 86, .inl (upd x_s (Int32.toNatClampNeg 85) ((x_s (Int32.toNatClampNeg 85)) + 1)))), (x6, .inl (G.2.1, 688, .inl x_past)), (x7, .inl (G.2.1, 172, .inl x_images)), (x8, .inl (G.2.1, 6, .inl x_seen)), (x9, .inl (G.2.1, 6, .inl x_seenDays)), (x10, .inl (G.2.1, 86, .inl x_held)), (x11, .inl (G.2.1, 81, .inl x_worth)), (x12, .inl (G.2.1, 48, .inl x_spoken))] H := hP
            have hD : va_D A [(x0, .inr (9, [.ref x1, .int x_typed, .ref x2, .ref x3, .ref x4, .int x_words, .ref x5, .ref x6, .int x_known, .ref x7, .int x_kept, .ref x8, .ref x9, .int x_sights, .int x_at, .int v_4, .ref x10, .ref x11, .ref x12])), (x1, .inl (G.2.1, 200, .inl x_text)), (x2, .inl (G.2.1, 37, .inl x_told)), (x3, .inl (G.2.1, 37, .inl x_draft)), (x4, .inl (G.2.1, 36, .inl x_begun)), (x5, .inl (G.2.1, 86, .inl (upd x_s (Int32.toNatClampNeg 85) ((x_s (Int32.toNatClampNeg 85)) + 1)))), (x6, .inl (G.2.1, 688, .inl x_past)), (x7, .inl (G.2.1, 172, .inl x_images)), (x8, .inl (G.2.1, 6, .inl x_seen)), (x9, .inl (G.2.1, 6, .inl x_seenDays)), (x10, .inl (G.2.1, 86, .inl x_held)), (x11, .inl (G.2.1, 81, .inl x_worth)), (x12, .inl (G.2.1, 48, .inl x_spoken))] := hD
            exact hret _ _ _ _ (v_4, (upd x_s (Int32.toNatClampNeg 85) ((x_s (Int32.toNatClampNeg 85)) + 1))) dX9_comes_216 h hP hD hS)
          refine lv_icmp_ne (tgt := 209) hx hb dX9_comes_197 (by decide) (fun hc => ?_) (fun hc => ?_)
          · have h := wp_f h hc
            refine lv_aload_n hx hb dX9_comes_209 rfl (lv_at hl 0 rfl) ?_
            refine va_get (D := G.1) (ci := 9) (v := .int x_without) (C := RX9) (T := TX9) (N := 19) hx hb hts hiX9 hown hK hP 0 rfl rfl 15 (by decide) (hts (.fieldLink RX9 134 "LodgingNamesModel" "without" "I") (by decide +kernel)) (fun _ h9 => h9) rfl dX9_comes_210 ?_
            exact h _ _ _ hP hD hS (lv_sub hl [] rfl)
          · have h := wp_t h hc
            refine lv_bipush (v := 10) hx hb dX9_comes_200 (by decide) ?_
            refine lv_iload_n hx hb dX9_comes_202 rfl (lv_at hl 1 rfl) ?_
            refine lv_imul hx hb dX9_comes_203 ?_
            refine lv_iload_n hx hb dX9_comes_204 rfl (lv_at hl 2 rfl) ?_
            refine lv_iadd hx hb dX9_comes_205 ?_
            refine lv_goto (tgt := 213) hx hb dX9_comes_206 (by decide) ?_
            exact h _ _ _ hP hD hS (lv_sub hl [] rfl))
        refine lv_if_eq (tgt := 179) hx hb dX9_comes_121 (by decide) (fun hc => ?_) (fun hc => ?_)
        · have h := wp_t h hc
          exact h _ _ _ hP hD hS (lv_sub hl [0, 1, 2] rfl)
        · have h := wp_f h hc
          refine lv_iload hx hb dX9_comes_124 (lv_at hl 5 rfl) ?_
          refine lv_if_lt (tgt := 179) hx hb dX9_comes_126 (by decide) (fun hc => ?_) (fun hc => ?_)
          · have h := wp_t h hc
            exact h _ _ _ hP hD hS (lv_sub hl [0, 1, 2] rfl)
          · have h := wp_f h hc
            refine lv_aload_n hx hb dX9_comes_129 rfl (lv_at hl 0 rfl) ?_
            refine va_get (D := G.1) (ci := 9) (v := .ref x2) (C := RX9) (T := TX9) (N := 19) hx hb hts hiX9 hown hK hP 0 rfl rfl 2 (by decide) (hts (.fieldLink RX9 13 "LodgingNamesModel" "told" "[I") (by decide +kernel)) (fun _ h9 => h9) rfl dX9_comes_130 ?_
            refine lv_bipush (v := 21) hx hb dX9_comes_133 (by decide) ?_
            refine lv_iload hx hb dX9_comes_135 (lv_at hl 5 rfl) ?_
            refine lv_iadd hx hb dX9_comes_137 ?_
            obtain ⟨hin, h⟩ := h
            refine va_iald hx hb hK hP 2 0 rfl rfl hin dX9_comes_138 ?_
            refine lv_aload_n hx hb dX9_comes_139 rfl (lv_at hl 0 rfl) ?_
            refine va_get (D := G.1) (ci := 9) (v := .ref x2) (C := RX9) (T := TX9) (N := 19) hx hb hts hiX9 hown hK hP 0 rfl rfl 2 (by decide) (hts (.fieldLink RX9 13 "LodgingNamesModel" "told" "[I") (by decide +kernel)) (fun _ h9 => h9) rfl dX9_comes_140 ?_
            refine lv_bipush (v := 21) hx hb dX9_comes_143 (by decide) ?_
            refine lv_iload_n hx hb dX9_comes_145 rfl (lv_at hl 2 rfl) ?_
            refine lv_iadd hx hb dX9_comes_146 ?_
            obtain ⟨hin, h⟩ := h
            refine va_iald hx hb hK hP 2 0 rfl rfl hin dX9_comes_147 ?_
            refine lv_icmp_ge (tgt := 179) hx hb dX9_comes_148 (by decide) (fun hc => ?_) (fun hc => ?_)
            · have h := wp_t h hc
              exact h _ _ _ hP hD hS (lv_sub hl [0, 1, 2] rfl)
            · have h := wp_f h hc
              refine lv_aload_n hx hb dX9_comes_151 rfl (lv_at hl 0 rfl) ?_
              refine va_get (D := G.1) (ci := 9) (v := .ref x5) (C := RX9) (T := TX9) (N := 19) hx hb hts hiX9 hown hK hP 0 rfl rfl 6 (by decide) (hts (.fieldLink RX9 22 "LodgingNamesModel" "s" "[I") (by decide +kernel)) (fun _ h9 => h9) rfl dX9_comes_152 ?_
              refine lv_bipush (v := 8) hx hb dX9_comes_155 (by decide) ?_
              refine lv_iload_n hx hb dX9_comes_157 rfl (lv_at hl 1 rfl) ?_
              refine lv_imul hx hb dX9_comes_158 ?_
              refine lv_iload hx hb dX9_comes_159 (lv_at hl 5 rfl) ?_
              refine lv_iadd hx hb dX9_comes_161 ?_
              refine lv_iconst (v := 0) hx hb dX9_comes_162 (by decide) ?_
              obtain ⟨hin, h⟩ := h
              refine va_iast hx hb hK hP hD hS 5 0 rfl rfl hin dX9_comes_163 (fun H locs hP hD hS => ?_)
              have hP : va_P G.1 vwCl [(x0, .inr (9, [.ref x1, .int x_typed, .ref x2, .ref x3, .ref x4, .int x_words, .ref x5, .ref x6, .int x_known, .ref x7, .int x_kept, .ref x8, .ref x9, .int x_sights, .int x_at, .int x_without, .ref x10, .ref x11, .ref x12])), (x1, .inl (G.2.1, 200, .inl x_text)), (x2, .inl (G.2.1, 37, .inl x_told)), (x3, .inl (G.2.1, 37, .inl x_draft)), (x4, .inl (G.2.1, 36, .inl x_begun)), (x5, .inl (G.2.1, 86, .inl (upd x_s (Int32.toNatClampNeg ((8 * a1) + r_3)) 0))), (x6, .inl (G.2.1, 688, .inl x_past)), (x7, .inl (G.2.1, 172, .inl x_images)), (x8, .inl (G.2.1, 6, .inl x_seen)), (x9, .inl (G.2.1, 6, .inl x_seenDays)), (x10, .inl (G.2.1, 86, .inl x_held)), (x11, .inl (G.2.1, 81, .inl x_worth)), (x12, .inl (G.2.1, 48, .inl x_spoken))] H := hP
              have hD : va_D A [(x0, .inr (9, [.ref x1, .int x_typed, .ref x2, .ref x3, .ref x4, .int x_words, .ref x5, .ref x6, .int x_known, .ref x7, .int x_kept, .ref x8, .ref x9, .int x_sights, .int x_at, .int x_without, .ref x10, .ref x11, .ref x12])), (x1, .inl (G.2.1, 200, .inl x_text)), (x2, .inl (G.2.1, 37, .inl x_told)), (x3, .inl (G.2.1, 37, .inl x_draft)), (x4, .inl (G.2.1, 36, .inl x_begun)), (x5, .inl (G.2.1, 86, .inl (upd x_s (Int32.toNatClampNeg ((8 * a1) + r_3)) 0))), (x6, .inl (G.2.1, 688, .inl x_past)), (x7, .inl (G.2.1, 172, .inl x_images)), (x8, .inl (G.2.1, 6, .inl x_seen)), (x9, .inl (G.2.1, 6, .inl x_seenDays)), (x10, .inl (G.2.1, 86, .inl x_held)), (x11, .inl (G.2.1, 81, .inl x_worth)), (x12, .inl (G.2.1, 48, .inl x_spoken))] := hD
              refine lv_aload_n hx hb dX9_comes_164 rfl (lv_at hl 0 rfl) ?_
              refine va_get (D := G.1) (ci := 9) (v := .ref x5) (C := RX9) (T := TX9) (N := 19) hx hb hts hiX9 hown hK hP 0 rfl rfl 6 (by decide) (hts (.fieldLink RX9 22 "LodgingNamesModel" "s" "[I") (by decide +kernel)) (fun _ h9 => h9) rfl dX9_comes_165 ?_
              refine lv_bipush (v := 8) hx hb dX9_comes_168 (by decide) ?_
              refine lv_iload_n hx hb dX9_comes_170 rfl (lv_at hl 1 rfl) ?_
              refine lv_imul hx hb dX9_comes_171 ?_
              refine lv_iload_n hx hb dX9_comes_172 rfl (lv_at hl 2 rfl) ?_
              refine lv_iadd hx hb dX9_comes_173 ?_
              refine lv_iload_n hx hb dX9_comes_174 rfl (lv_at hl 3 rfl) ?_
              obtain ⟨hin, h⟩ := h
              refine va_iast hx hb hK hP hD hS 5 0 rfl rfl hin dX9_comes_175 (fun H locs hP hD hS => ?_)
              have hP : va_P G.1 vwCl [(x0, .inr (9, [.ref x1, .int x_typed, .ref x2, .ref x3, .ref x4, .int x_words, .ref x5, .ref x6, .int x_known, .ref x7, .int x_kept, .ref x8, .ref x9, .int x_sights, .int x_at, .int x_without, .ref x10, .ref x11, .ref x12])), (x1, .inl (G.2.1, 200, .inl x_text)), (x2, .inl (G.2.1, 37, .inl x_told)), (x3, .inl (G.2.1, 37, .inl x_draft)), (x4, .inl (G.2.1, 36, .inl x_begun)), (x5, .inl (G.2.1, 86, .inl (upd (upd x_s (Int32.toNatClampNeg ((8 * a1) + r_3)) 0) (Int32.toNatClampNeg ((8 * a1) + a2)) a3))), (x6, .inl (G.2.1, 688, .inl x_past)), (x7, .inl (G.2.1, 172, .inl x_images)), (x8, .inl (G.2.1, 6, .inl x_seen)), (x9, .inl (G.2.1, 6, .inl x_seenDays)), (x10, .inl (G.2.1, 86, .inl x_held)), (x11, .inl (G.2.1, 81, .inl x_worth)), (x12, .inl (G.2.1, 48, .inl x_spoken))] H := hP
              have hD : va_D A [(x0, .inr (9, [.ref x1, .int x_typed, .ref x2, .ref x3, .ref x4, .int x_words, .ref x5, .ref x6, .int x_known, .ref x7, .int x_kept, .ref x8, .ref x9, .int x_sights, .int x_at, .int x_without, .ref x10, .ref x11, .ref x12])), (x1, .inl (G.2.1, 200, .inl x_text)), (x2, .inl (G.2.1, 37, .inl x_told)), (x3, .inl (G.2.1, 37, .inl x_draft)), (x4, .inl (G.2.1, 36, .inl x_begun)), (x5, .inl (G.2.1, 86, .inl (upd (upd x_s (Int32.toNatClampNeg ((8 * a1) + r_3)) 0) (Int32.toNatClampNeg ((8 * a1) + a2)) a3))), (x6, .inl (G.2.1, 688, .inl x_past)), (x7, .inl (G.2.1, 172, .inl x_images)), (x8, .inl (G.2.1, 6, .inl x_seen)), (x9, .inl (G.2.1, 6, .inl x_seenDays)), (x10, .inl (G.2.1, 86, .inl x_held)), (x11, .inl (G.2.1, 81, .inl x_worth)), (x12, .inl (G.2.1, 48, .inl x_spoken))] := hD
              refine lv_goto (tgt := 216) hx hb dX9_comes_176 (by decide) ?_
              exact hret _ _ _ _ (x_without, (upd (upd x_s (Int32.toNatClampNeg ((8 * a1) + r_3)) 0) (Int32.toNatClampNeg ((8 * a1) + a2)) a3)) dX9_comes_216 h hP hD hS)
      refine lv_if_eq (tgt := 119) hx hb dX9_comes_81 (by decide) (fun hc => ?_) (fun hc => ?_)
      · have h := wp_t h hc
        exact h _ _ _ hP hD hS (lv_sub hl [1, 2, 3, 4, 5, 0] rfl)
      · have h := wp_f h hc
        refine lv_aload_n hx hb dX9_comes_84 rfl (lv_at hl 1 rfl) ?_
        refine lv_iload_n hx hb dX9_comes_85 rfl (lv_at hl 2 rfl) ?_
        refine kc_i (Wr := []) (va_runV (As := [.int a1]) (rest := []) Fx (MX9_lodgers l G x0 x1 x2 x3 x4 x5 x6 x7 x8 x9 x10 x11 x12 x_typed x_words x_known x_kept x_sights x_at x_without x_text x_told x_draft x_begun x_s x_past x_images x_seen x_seenDays x_held x_worth x_spoken a1 h H.size) (cwV 1 hts gX9_comes_X9_lodgers rfl rfl rfl (by decide +kernel) ⟨Nat.le_of_ble_eq_true rfl, Nat.le_of_ble_eq_true rfl⟩) (kpreV hP hD hK hN [0, 1, 2, 3, 4, 5, 6, 7, 8, 9, 10, 11, 12] rfl rfl 0 rfl rfl) rfl rfl hl.1 rfl (lv_room (Nat.le_of_ble_eq_true rfl)) dX9_comes_86 ⟨Nat.le_of_ble_eq_true rfl, Nat.le_of_ble_eq_true rfl⟩) hP hD hS hA [0, 1, 2, 3, 4, 5, 6, 7, 8, 9, 10, 11, 12] [] rfl rfl rfl (by decide +kernel) (fun r_5 u H locs h hP hD hS => ?_)
        have hP : va_P G.1 vwCl [(x0, .inr (9, [.ref x1, .int x_typed, .ref x2, .ref x3, .ref x4, .int x_words, .ref x5, .ref x6, .int x_known, .ref x7, .int x_kept, .ref x8, .ref x9, .int x_sights, .int x_at, .int x_without, .ref x10, .ref x11, .ref x12])), (x1, .inl (G.2.1, 200, .inl x_text)), (x2, .inl (G.2.1, 37, .inl x_told)), (x3, .inl (G.2.1, 37, .inl x_draft)), (x4, .inl (G.2.1, 36, .inl x_begun)), (x5, .inl (G.2.1, 86, .inl x_s)), (x6, .inl (G.2.1, 688, .inl x_past)), (x7, .inl (G.2.1, 172, .inl x_images)), (x8, .inl (G.2.1, 6, .inl x_seen)), (x9, .inl (G.2.1, 6, .inl x_seenDays)), (x10, .inl (G.2.1, 86, .inl x_held)), (x11, .inl (G.2.1, 81, .inl x_worth)), (x12, .inl (G.2.1, 48, .inl x_spoken))] H := hP
        have hD : va_D A [(x0, .inr (9, [.ref x1, .int x_typed, .ref x2, .ref x3, .ref x4, .int x_words, .ref x5, .ref x6, .int x_known, .ref x7, .int x_kept, .ref x8, .ref x9, .int x_sights, .int x_at, .int x_without, .ref x10, .ref x11, .ref x12])), (x1, .inl (G.2.1, 200, .inl x_text)), (x2, .inl (G.2.1, 37, .inl x_told)), (x3, .inl (G.2.1, 37, .inl x_draft)), (x4, .inl (G.2.1, 36, .inl x_begun)), (x5, .inl (G.2.1, 86, .inl x_s)), (x6, .inl (G.2.1, 688, .inl x_past)), (x7, .inl (G.2.1, 172, .inl x_images)), (x8, .inl (G.2.1, 6, .inl x_seen)), (x9, .inl (G.2.1, 6, .inl x_seenDays)), (x10, .inl (G.2.1, 86, .inl x_held)), (x11, .inl (G.2.1, 81, .inl x_worth)), (x12, .inl (G.2.1, 48, .inl x_spoken))] := hD
        refine kc_i (Wr := [(x0, .inr (9, [.ref x1, .int x_typed, .ref x2, .ref x3, .ref x4, .int x_words, .ref x5, .ref x6, .int x_known, .ref x7, .int x_kept, .ref x8, .ref x9, .int x_sights, .int x_at, .int x_without, .ref x10, .ref x11, .ref x12])), (x1, .inl (G.2.1, 200, .inl x_text)), (x2, .inl (G.2.1, 37, .inl x_told)), (x3, .inl (G.2.1, 37, .inl x_draft)), (x4, .inl (G.2.1, 36, .inl x_begun)), (x5, .inl (G.2.1, 86, .inl x_s)), (x6, .inl (G.2.1, 688, .inl x_past)), (x7, .inl (G.2.1, 172, .inl x_images)), (x8, .inl (G.2.1, 6, .inl x_seen)), (x9, .inl (G.2.1, 6, .inl x_seenDays)), (x10, .inl (G.2.1, 86, .inl x_held)), (x11, .inl (G.2.1, 81, .inl x_worth)), (x12, .inl (G.2.1, 48, .inl x_spoken))]) (va_runS (As := [.int r_5]) (rest := []) Fx (MX9_ones l G r_5 h H.size) (va_cwS 1 hts gX9_comes_X9_ones rfl rfl rfl (by decide +kernel) ⟨Nat.le_of_ble_eq_true rfl, Nat.le_of_ble_eq_true rfl⟩) (kpreS hP hD hK hN [] rfl rfl) rfl rfl hl.1 rfl (lv_room (Nat.le_of_ble_eq_true rfl)) dX9_comes_89 ⟨Nat.le_of_ble_eq_true rfl, Nat.le_of_ble_eq_true rfl⟩) hP hD hS hA [] [0, 1, 2, 3, 4, 5, 6, 7, 8, 9, 10, 11, 12] rfl rfl rfl (by decide +kernel) (fun r_6 u H locs h hP hD hS => ?_)
        have hP : va_P G.1 vwCl [(x0, .inr (9, [.ref x1, .int x_typed, .ref x2, .ref x3, .ref x4, .int x_words, .ref x5, .ref x6, .int x_known, .ref x7, .int x_kept, .ref x8, .ref x9, .int x_sights, .int x_at, .int x_without, .ref x10, .ref x11, .ref x12])), (x1, .inl (G.2.1, 200, .inl x_text)), (x2, .inl (G.2.1, 37, .inl x_told)), (x3, .inl (G.2.1, 37, .inl x_draft)), (x4, .inl (G.2.1, 36, .inl x_begun)), (x5, .inl (G.2.1, 86, .inl x_s)), (x6, .inl (G.2.1, 688, .inl x_past)), (x7, .inl (G.2.1, 172, .inl x_images)), (x8, .inl (G.2.1, 6, .inl x_seen)), (x9, .inl (G.2.1, 6, .inl x_seenDays)), (x10, .inl (G.2.1, 86, .inl x_held)), (x11, .inl (G.2.1, 81, .inl x_worth)), (x12, .inl (G.2.1, 48, .inl x_spoken))] H := hP
        have hD : va_D A [(x0, .inr (9, [.ref x1, .int x_typed, .ref x2, .ref x3, .ref x4, .int x_words, .ref x5, .ref x6, .int x_known, .ref x7, .int x_kept, .ref x8, .ref x9, .int x_sights, .int x_at, .int x_without, .ref x10, .ref x11, .ref x12])), (x1, .inl (G.2.1, 200, .inl x_text)), (x2, .inl (G.2.1, 37, .inl x_told)), (x3, .inl (G.2.1, 37, .inl x_draft)), (x4, .inl (G.2.1, 36, .inl x_begun)), (x5, .inl (G.2.1, 86, .inl x_s)), (x6, .inl (G.2.1, 688, .inl x_past)), (x7, .inl (G.2.1, 172, .inl x_images)), (x8, .inl (G.2.1, 6, .inl x_seen)), (x9, .inl (G.2.1, 6, .inl x_seenDays)), (x10, .inl (G.2.1, 86, .inl x_held)), (x11, .inl (G.2.1, 81, .inl x_worth)), (x12, .inl (G.2.1, 48, .inl x_spoken))] := hD
        refine lv_aload_n hx hb dX9_comes_92 rfl (lv_at hl 1 rfl) ?_
        refine va_get (D := G.1) (ci := 9) (v := .ref x2) (C := RX9) (T := TX9) (N := 19) hx hb hts hiX9 hown hK hP 0 rfl rfl 2 (by decide) (hts (.fieldLink RX9 13 "LodgingNamesModel" "told" "[I") (by decide +kernel)) (fun _ h9 => h9) rfl dX9_comes_93 ?_
        refine lv_bipush (v := 9) hx hb dX9_comes_96 (by decide) ?_
        refine lv_iload_n hx hb dX9_comes_98 rfl (lv_at hl 2 rfl) ?_
        refine lv_iadd hx hb dX9_comes_99 ?_
        obtain ⟨hin, h⟩ := h
        refine va_iald hx hb hK hP 2 0 rfl rfl hin dX9_comes_100 ?_
        refine lv_icmp_ge (tgt := 119) hx hb dX9_comes_101 (by decide) (fun hc => ?_) (fun hc => ?_)
        · have h := wp_t h hc
          exact h _ _ _ hP hD hS (lv_sub hl [1, 2, 3, 4, 5, 0] rfl)
        · have h := wp_f h hc
          refine lv_aload_n hx hb dX9_comes_104 rfl (lv_at hl 1 rfl) ?_
          refine va_get (D := G.1) (ci := 9) (v := .ref x5) (C := RX9) (T := TX9) (N := 19) hx hb hts hiX9 hown hK hP 0 rfl rfl 6 (by decide) (hts (.fieldLink RX9 22 "LodgingNamesModel" "s" "[I") (by decide +kernel)) (fun _ h9 => h9) rfl dX9_comes_105 ?_
          refine lv_bipush (v := 8) hx hb dX9_comes_108 (by decide) ?_
          refine lv_iload_n hx hb dX9_comes_110 rfl (lv_at hl 2 rfl) ?_
          refine lv_imul hx hb dX9_comes_111 ?_
          refine lv_iload_n hx hb dX9_comes_112 rfl (lv_at hl 3 rfl) ?_
          refine lv_iadd hx hb dX9_comes_113 ?_
          refine lv_iload_n hx hb dX9_comes_114 rfl (lv_at hl 4 rfl) ?_
          obtain ⟨hin, h⟩ := h
          refine va_iast hx hb hK hP hD hS 5 0 rfl rfl hin dX9_comes_115 (fun H locs hP hD hS => ?_)
          have hP : va_P G.1 vwCl [(x0, .inr (9, [.ref x1, .int x_typed, .ref x2, .ref x3, .ref x4, .int x_words, .ref x5, .ref x6, .int x_known, .ref x7, .int x_kept, .ref x8, .ref x9, .int x_sights, .int x_at, .int x_without, .ref x10, .ref x11, .ref x12])), (x1, .inl (G.2.1, 200, .inl x_text)), (x2, .inl (G.2.1, 37, .inl x_told)), (x3, .inl (G.2.1, 37, .inl x_draft)), (x4, .inl (G.2.1, 36, .inl x_begun)), (x5, .inl (G.2.1, 86, .inl (upd x_s (Int32.toNatClampNeg ((8 * a1) + a2)) a3))), (x6, .inl (G.2.1, 688, .inl x_past)), (x7, .inl (G.2.1, 172, .inl x_images)), (x8, .inl (G.2.1, 6, .inl x_seen)), (x9, .inl (G.2.1, 6, .inl x_seenDays)), (x10, .inl (G.2.1, 86, .inl x_held)), (x11, .inl (G.2.1, 81, .inl x_worth)), (x12, .inl (G.2.1, 48, .inl x_spoken))] H := hP
          have hD : va_D A [(x0, .inr (9, [.ref x1, .int x_typed, .ref x2, .ref x3, .ref x4, .int x_words, .ref x5, .ref x6, .int x_known, .ref x7, .int x_kept, .ref x8, .ref x9, .int x_sights, .int x_at, .int x_without, .ref x10, .ref x11, .ref x12])), (x1, .inl (G.2.1, 200, .inl x_text)), (x2, .inl (G.2.1, 37, .inl x_told)), (x3, .inl (G.2.1, 37, .inl x_draft)), (x4, .inl (G.2.1, 36, .inl x_begun)), (x5, .inl (G.2.1, 86, .inl (upd x_s (Int32.toNatClampNeg ((8 * a1) + a2)) a3))), (x6, .inl (G.2.1, 688, .inl x_past)), (x7, .inl (G.2.1, 172, .inl x_images)), (x8, .inl (G.2.1, 6, .inl x_seen)), (x9, .inl (G.2.1, 6, .inl x_seenDays)), (x10, .inl (G.2.1, 86, .inl x_held)), (x11, .inl (G.2.1, 81, .inl x_worth)), (x12, .inl (G.2.1, 48, .inl x_spoken))] := hD
          refine lv_goto (tgt := 216) hx hb dX9_comes_116 (by decide) ?_
          exact hret _ _ _ _ (x_without, (upd x_s (Int32.toNatClampNeg ((8 * a1) + a2)) a3)) dX9_comes_216 h hP hD hS
    · have h := wp_f h hc
      refine lv_iload hx hb dX9_comes_17 (lv_at hl 4 rfl) ?_
      have h := h (fun (v_7 : Int32) => ∀ (H : Heap) (locs : List Loc) (ls : Array Slot), va_P G.1 vwCl [(x0, .inr (9, [.ref x1, .int x_typed, .ref x2, .ref x3, .ref x4, .int x_words, .ref x5, .ref x6, .int x_known, .ref x7, .int x_kept, .ref x8, .ref x9, .int x_sights, .int x_at, .int x_without, .ref x10, .ref x11, .ref x12])), (x1, .inl (G.2.1, 200, .inl x_text)), (x2, .inl (G.2.1, 37, .inl x_told)), (x3, .inl (G.2.1, 37, .inl x_draft)), (x4, .inl (G.2.1, 36, .inl x_begun)), (x5, .inl (G.2.1, 86, .inl x_s)), (x6, .inl (G.2.1, 688, .inl x_past)), (x7, .inl (G.2.1, 172, .inl x_images)), (x8, .inl (G.2.1, 6, .inl x_seen)), (x9, .inl (G.2.1, 6, .inl x_seenDays)), (x10, .inl (G.2.1, 86, .inl x_held)), (x11, .inl (G.2.1, 81, .inl x_worth)), (x12, .inl (G.2.1, 48, .inl x_spoken))] H → va_D A [(x0, .inr (9, [.ref x1, .int x_typed, .ref x2, .ref x3, .ref x4, .int x_words, .ref x5, .ref x6, .int x_known, .ref x7, .int x_kept, .ref x8, .ref x9, .int x_sights, .int x_at, .int x_without, .ref x10, .ref x11, .ref x12])), (x1, .inl (G.2.1, 200, .inl x_text)), (x2, .inl (G.2.1, 37, .inl x_told)), (x3, .inl (G.2.1, 37, .inl x_draft)), (x4, .inl (G.2.1, 36, .inl x_begun)), (x5, .inl (G.2.1, 86, .inl x_s)), (x6, .inl (G.2.1, 688, .inl x_past)), (x7, .inl (G.2.1, 172, .inl x_images)), (x8, .inl (G.2.1, 6, .inl x_seen)), (x9, .inl (G.2.1, 6, .inl x_seenDays)), (x10, .inl (G.2.1, 86, .inl x_held)), (x11, .inl (G.2.1, 81, .inl x_worth)), (x12, .inl (G.2.1, 48, .inl x_spoken))] → va_S A s.heap H locs → lv_has ls 6 [(0, .ref x0), (1, .int a1), (2, .int a2), (3, .int a3), (5, .int v_2)] → W p l e rmX9_comes s m [.ref x0, .int a1, .int a2, .int a3].toArray below meth c H locs 0 0 Q (F0 m 64 ls [.int v_7]))
      have h := h (fun v_7 h H locs ls hP hD hS hl => by
        refine lv_istore (lv' := [(4, .int v_7), (0, .ref x0), (1, .int a1), (2, .int a2), (3, .int a3), (5, .int v_2)]) hx hb dX9_comes_64 hl (by decide) rfl (fun ls hl => ?_)
        refine lv_iinc (v := (v_2 + 1)) (lv' := [(5, .int (v_2 + 1)), (4, .int v_7), (0, .ref x0), (1, .int a1), (2, .int a2), (3, .int a3)]) hx hb dX9_comes_66 hl (k := 5) rfl rfl (by decide) rfl (fun ls hl => ?_)
        refine lv_goto (tgt := 6) hx hb dX9_comes_69 (by decide) ?_
        exact h _ _ _ hP hD hS (lv_sub hl [2, 3, 4, 5, 1, 0] rfl))
      have h := h (∀ (H : Heap) (locs : List Loc) (ls : Array Slot), va_P G.1 vwCl [(x0, .inr (9, [.ref x1, .int x_typed, .ref x2, .ref x3, .ref x4, .int x_words, .ref x5, .ref x6, .int x_known, .ref x7, .int x_kept, .ref x8, .ref x9, .int x_sights, .int x_at, .int x_without, .ref x10, .ref x11, .ref x12])), (x1, .inl (G.2.1, 200, .inl x_text)), (x2, .inl (G.2.1, 37, .inl x_told)), (x3, .inl (G.2.1, 37, .inl x_draft)), (x4, .inl (G.2.1, 36, .inl x_begun)), (x5, .inl (G.2.1, 86, .inl x_s)), (x6, .inl (G.2.1, 688, .inl x_past)), (x7, .inl (G.2.1, 172, .inl x_images)), (x8, .inl (G.2.1, 6, .inl x_seen)), (x9, .inl (G.2.1, 6, .inl x_seenDays)), (x10, .inl (G.2.1, 86, .inl x_held)), (x11, .inl (G.2.1, 81, .inl x_worth)), (x12, .inl (G.2.1, 48, .inl x_spoken))] H → va_D A [(x0, .inr (9, [.ref x1, .int x_typed, .ref x2, .ref x3, .ref x4, .int x_words, .ref x5, .ref x6, .int x_known, .ref x7, .int x_kept, .ref x8, .ref x9, .int x_sights, .int x_at, .int x_without, .ref x10, .ref x11, .ref x12])), (x1, .inl (G.2.1, 200, .inl x_text)), (x2, .inl (G.2.1, 37, .inl x_told)), (x3, .inl (G.2.1, 37, .inl x_draft)), (x4, .inl (G.2.1, 36, .inl x_begun)), (x5, .inl (G.2.1, 86, .inl x_s)), (x6, .inl (G.2.1, 688, .inl x_past)), (x7, .inl (G.2.1, 172, .inl x_images)), (x8, .inl (G.2.1, 6, .inl x_seen)), (x9, .inl (G.2.1, 6, .inl x_seenDays)), (x10, .inl (G.2.1, 86, .inl x_held)), (x11, .inl (G.2.1, 81, .inl x_worth)), (x12, .inl (G.2.1, 48, .inl x_spoken))] → va_S A s.heap H locs → lv_has ls 6 [(0, .ref x0), (1, .int a1), (2, .int a2), (3, .int a3), (5, .int v_2)] → W p l e rmX9_comes s m [.ref x0, .int a1, .int a2, .int a3].toArray below meth c H locs 0 0 Q (F0 m 63 ls []))
      have h := h (fun  h H locs ls hP hD hS hl => by
        refine lv_iconst (v := 0) hx hb dX9_comes_63 (by decide) ?_
        exact h _ _ _ hP hD hS (lv_sub hl [0, 1, 2, 3, 4] rfl))
      refine lv_if_eq (tgt := 63) hx hb dX9_comes_19 (by decide) (fun hc => ?_) (fun hc => ?_)
      · have h := wp_t h hc
        exact h _ _ _ hP hD hS (lv_sub hl [0, 1, 2, 3, 5] rfl)
      · have h := wp_f h hc
        refine lv_aload_n hx hb dX9_comes_22 rfl (lv_at hl 0 rfl) ?_
        refine va_get (D := G.1) (ci := 9) (v := .ref x2) (C := RX9) (T := TX9) (N := 19) hx hb hts hiX9 hown hK hP 0 rfl rfl 2 (by decide) (hts (.fieldLink RX9 13 "LodgingNamesModel" "told" "[I") (by decide +kernel)) (fun _ h9 => h9) rfl dX9_comes_23 ?_
        refine lv_iconst (v := 3) hx hb dX9_comes_26 (by decide) ?_
        refine lv_iload_n hx hb dX9_comes_27 rfl (lv_at hl 1 rfl) ?_
        refine lv_iadd hx hb dX9_comes_28 ?_
        obtain ⟨hin, h⟩ := h
        refine va_iald hx hb hK hP 2 0 rfl rfl hin dX9_comes_29 ?_
        refine lv_iconst (v := 2) hx hb dX9_comes_30 (by decide) ?_
        have h := h (∀ (H : Heap) (locs : List Loc) (ls : Array Slot), va_P G.1 vwCl [(x0, .inr (9, [.ref x1, .int x_typed, .ref x2, .ref x3, .ref x4, .int x_words, .ref x5, .ref x6, .int x_known, .ref x7, .int x_kept, .ref x8, .ref x9, .int x_sights, .int x_at, .int x_without, .ref x10, .ref x11, .ref x12])), (x1, .inl (G.2.1, 200, .inl x_text)), (x2, .inl (G.2.1, 37, .inl x_told)), (x3, .inl (G.2.1, 37, .inl x_draft)), (x4, .inl (G.2.1, 36, .inl x_begun)), (x5, .inl (G.2.1, 86, .inl x_s)), (x6, .inl (G.2.1, 688, .inl x_past)), (x7, .inl (G.2.1, 172, .inl x_images)), (x8, .inl (G.2.1, 6, .inl x_seen)), (x9, .inl (G.2.1, 6, .inl x_seenDays)), (x10, .inl (G.2.1, 86, .inl x_held)), (x11, .inl (G.2.1, 81, .inl x_worth)), (x12, .inl (G.2.1, 48, .inl x_spoken))] H → va_D A [(x0, .inr (9, [.ref x1, .int x_typed, .ref x2, .ref x3, .ref x4, .int x_words, .ref x5, .ref x6, .int x_known, .ref x7, .int x_kept, .ref x8, .ref x9, .int x_sights, .int x_at, .int x_without, .ref x10, .ref x11, .ref x12])), (x1, .inl (G.2.1, 200, .inl x_text)), (x2, .inl (G.2.1, 37, .inl x_told)), (x3, .inl (G.2.1, 37, .inl x_draft)), (x4, .inl (G.2.1, 36, .inl x_begun)), (x5, .inl (G.2.1, 86, .inl x_s)), (x6, .inl (G.2.1, 688, .inl x_past)), (x7, .inl (G.2.1, 172, .inl x_images)), (x8, .inl (G.2.1, 6, .inl x_seen)), (x9, .inl (G.2.1, 6, .inl x_seenDays)), (x10, .inl (G.2.1, 86, .inl x_held)), (x11, .inl (G.2.1, 81, .inl x_worth)), (x12, .inl (G.2.1, 48, .inl x_spoken))] → va_S A s.heap H locs → lv_has ls 6 [(0, .ref x0), (1, .int a1), (2, .int a2), (3, .int a3), (5, .int v_2)] → W p l e rmX9_comes s m [.ref x0, .int a1, .int a2, .int a3].toArray below meth c H locs 0 0 Q (F0 m 59 ls []))
        have h := h (fun  h H locs ls hP hD hS hl => by
          refine lv_iconst (v := 1) hx hb dX9_comes_59 (by decide) ?_
          refine lv_goto (tgt := 64) hx hb dX9_comes_60 (by decide) ?_
          exact h _ _ _ hP hD hS (lv_sub hl [0, 1, 2, 3, 4] rfl))
        refine lv_icmp_ne (tgt := 59) hx hb dX9_comes_31 (by decide) (fun hc => ?_) (fun hc => ?_)
        · have h := wp_f h hc
          exact h _ _ _ hP hD hS (lv_sub hl [0, 1, 2, 3, 5] rfl)
        · have h := wp_t h hc
          refine lv_aload_n hx hb dX9_comes_34 rfl (lv_at hl 0 rfl) ?_
          refine va_get (D := G.1) (ci := 9) (v := .ref x5) (C := RX9) (T := TX9) (N := 19) hx hb hts hiX9 hown hK hP 0 rfl rfl 6 (by decide) (hts (.fieldLink RX9 22 "LodgingNamesModel" "s" "[I") (by decide +kernel)) (fun _ h9 => h9) rfl dX9_comes_35 ?_
          refine lv_bipush (v := 8) hx hb dX9_comes_38 (by decide) ?_
          refine lv_iload_n hx hb dX9_comes_40 rfl (lv_at hl 1 rfl) ?_
          refine lv_imul hx hb dX9_comes_41 ?_
          refine lv_iload hx hb dX9_comes_42 (lv_at hl 5 rfl) ?_
          refine lv_iadd hx hb dX9_comes_44 ?_
          obtain ⟨hin, h⟩ := h
          refine va_iald hx hb hK hP 5 0 rfl rfl hin dX9_comes_45 ?_
          refine lv_if_eq (tgt := 59) hx hb dX9_comes_46 (by decide) (fun hc => ?_) (fun hc => ?_)
          · have h := wp_t h hc
            exact h _ _ _ hP hD hS (lv_sub hl [0, 1, 2, 3, 5] rfl)
          · have h := wp_f h hc
            refine lv_aload_n hx hb dX9_comes_49 rfl (lv_at hl 0 rfl) ?_
            refine lv_iload_n hx hb dX9_comes_50 rfl (lv_at hl 2 rfl) ?_
            refine lv_iload hx hb dX9_comes_51 (lv_at hl 5 rfl) ?_
            refine kc_i (Wr := []) (va_runV (As := [.int a2, .int v_2]) (rest := []) Fx (MX9_quarrels l G x0 x1 x2 x3 x4 x5 x6 x7 x8 x9 x10 x11 x12 x_typed x_words x_known x_kept x_sights x_at x_without x_text x_told x_draft x_begun x_s x_past x_images x_seen x_seenDays x_held x_worth x_spoken a2 v_2 h H.size) (cwV 2 hts gX9_comes_X9_quarrels rfl rfl rfl (by decide +kernel) ⟨Nat.le_of_ble_eq_true rfl, Nat.le_of_ble_eq_true rfl⟩) (kpreV hP hD hK hN [0, 1, 2, 3, 4, 5, 6, 7, 8, 9, 10, 11, 12] rfl rfl 0 rfl rfl) rfl rfl hl.1 rfl (lv_room (Nat.le_of_ble_eq_true rfl)) dX9_comes_53 ⟨Nat.le_of_ble_eq_true rfl, Nat.le_of_ble_eq_true rfl⟩) hP hD hS hA [0, 1, 2, 3, 4, 5, 6, 7, 8, 9, 10, 11, 12] [] rfl rfl rfl (by decide +kernel) (fun r_8 u H locs h hP hD hS => ?_)
            have hP : va_P G.1 vwCl [(x0, .inr (9, [.ref x1, .int x_typed, .ref x2, .ref x3, .ref x4, .int x_words, .ref x5, .ref x6, .int x_known, .ref x7, .int x_kept, .ref x8, .ref x9, .int x_sights, .int x_at, .int x_without, .ref x10, .ref x11, .ref x12])), (x1, .inl (G.2.1, 200, .inl x_text)), (x2, .inl (G.2.1, 37, .inl x_told)), (x3, .inl (G.2.1, 37, .inl x_draft)), (x4, .inl (G.2.1, 36, .inl x_begun)), (x5, .inl (G.2.1, 86, .inl x_s)), (x6, .inl (G.2.1, 688, .inl x_past)), (x7, .inl (G.2.1, 172, .inl x_images)), (x8, .inl (G.2.1, 6, .inl x_seen)), (x9, .inl (G.2.1, 6, .inl x_seenDays)), (x10, .inl (G.2.1, 86, .inl x_held)), (x11, .inl (G.2.1, 81, .inl x_worth)), (x12, .inl (G.2.1, 48, .inl x_spoken))] H := hP
            have hD : va_D A [(x0, .inr (9, [.ref x1, .int x_typed, .ref x2, .ref x3, .ref x4, .int x_words, .ref x5, .ref x6, .int x_known, .ref x7, .int x_kept, .ref x8, .ref x9, .int x_sights, .int x_at, .int x_without, .ref x10, .ref x11, .ref x12])), (x1, .inl (G.2.1, 200, .inl x_text)), (x2, .inl (G.2.1, 37, .inl x_told)), (x3, .inl (G.2.1, 37, .inl x_draft)), (x4, .inl (G.2.1, 36, .inl x_begun)), (x5, .inl (G.2.1, 86, .inl x_s)), (x6, .inl (G.2.1, 688, .inl x_past)), (x7, .inl (G.2.1, 172, .inl x_images)), (x8, .inl (G.2.1, 6, .inl x_seen)), (x9, .inl (G.2.1, 6, .inl x_seenDays)), (x10, .inl (G.2.1, 86, .inl x_held)), (x11, .inl (G.2.1, 81, .inl x_worth)), (x12, .inl (G.2.1, 48, .inl x_spoken))] := hD
            refine lv_if_ne (tgt := 63) hx hb dX9_comes_56 (by decide) (fun hc => ?_) (fun hc => ?_)
            · have h := wp_f h hc
              exact h _ _ _ hP hD hS (lv_sub hl [0, 1, 2, 3, 5] rfl)
            · have h := wp_t h hc
              exact h _ _ _ hP hD hS (lv_sub hl [0, 1, 2, 3, 5] rfl))
  exact h _ _ _ hP hD hS (lv_sub hl [2, 3, 4, 5, 1, 0] rfl)

