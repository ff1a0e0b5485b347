/-! pure: lay -/
abbrev okL (c : Nat) (t : Nat → Nat) : Prop := (rdT c t).1 = -4 ∧ 1 ≤ Pnp (rdT c t).2.1 ∧ 1 ≤ Pnn (rdT c t).2.1
theorem PV1_lay {c : Nat} {t : Nat → Nat} (o : okL c t) : PV1 (rdT c t).2.1 := ⟨(rdA_V 200 0 P00 w00 PV_00 WV_00).1, o.2.1, o.2.2⟩
theorem SV_lay {c : Nat} {t : Nat → Nat} : SV (rdT c t).2.1 (rdT c t).2.2 (fun _ _ => 0) :=
  ⟨(rdA_V 200 0 P00 w00 PV_00 WV_00).2, fun _ _ => by show 0 < 10; omega, fun _ _ _ => rfl, fun _ _ _ => rfl, fun _ _ _ => rfl⟩
theorem c_lay {len : Int32} {ls : Nat → Int32} {c : Nat} {t : Nat → Nat} {nums : Nat → Int32} {dk db df du de pk pb pf pu pe nf : Nat → Int32} {dr pr nr : Nat → Int64} {pp pn pq nd nl bh kh gm : Int32} {K : Int32 → (Nat → Int32) → Int32 → Int32 → Int32 → (Nat → Int32) → (Nat → Int32) → (Nat → Int32) → (Nat → Int32) → (Nat → Int32) → (Nat → Int64) → Int32 → Int32 → Int32 → (Nat → Int32) → (Nat → Int32) → (Nat → Int32) → (Nat → Int32) → (Nat → Int32) → (Nat → Int64) → Int32 → Int32 → (Nat → Int64) → (Nat → Int32) → Int32 → Int32 → Int32 → Prop} (h : rX len ls c t) (hV : XV c t)
    (h0 : ¬ okL c t → ∀ nums a1 a2 a3 a4 a5 a6 a7 a8 a9, K (-2) nums a1 a2 a3 a4 a5 a6 a7 a8 a9 pp pn pq pk pb pf pu pe pr nd nl nr nf bh kh gm)
    (h1 : okL c t → ∀ nums a1 a2 a3 a4 a5 a6 a7 a8 a9 np nn q b1 b2 b3 b4 b5 r1 r2 f, rPt (rdT c t).2.1 np nn q b1 b2 b3 b4 b5 → rW r1 (rdT c t).2.2 → rW r2 (rdT c t).2.2 → rD f (fun _ _ => 0) → K (nI (Pnp (rdT c t).2.1)) nums a1 a2 a3 a4 a5 a6 a7 a8 a9 np nn q b1 b2 b3 b4 b5 r1 0 0 r2 f 0 0 0) : wpX8_lay len ls nums dk db df du de dr pp pn pq pk pb pf pu pe pr nd nl nr nf bh kh gm K := by
  unfold wpX8_lay
  have hv := rdA_V (c := c) (t := t) 200 0 P00 w00 PV_00 WV_00
  refine p_readInto h hV (fun e nums2 np nn q a b f u e' r hR hr => ?_) (fun e nums2 np nn q a b f u e' r => ?_)
  · intro J38 h38
    rw [if_pos rfl, hR.1, hR.2.1]
    rw [hR.1, hR.2.1] at h38
    have h6 : Pnp (rdT c t).2.1 ≤ 6 := hv.1.1
    have h8 : Pnn (rdT c t).2.1 ≤ 8 := hv.1.2.1
    refine it_lt (b := 1) (by omega) (by omega) (fun y => h38 (h0 (fun o => by have := o.2.1; omega) _ _ _ _ _ _ _ _ _ _)) (fun y => ?_)
    refine it_le (a := 1) (by omega) (by omega) (fun y2 => ?_) (fun y2 => h38 (h0 (fun o => by have := o.2.2; omega) _ _ _ _ _ _ _ _ _ _))
    have o : okL c t := ⟨e, y, y2⟩
    refine p_readInto h hV (fun _ nums3 np2 nn2 q2 b1 b2 b3 b4 b5 r1 hR2 hr1 => ?_) (fun ne => absurd e ne)
    refine p_begin hr1 ?_
    intro r2 f2 hr2 hf2
    unfold wpX2_clear wpX4_clear
    have := h1 o nums3 (nI (Pnp (rdT c t).2.1)) (nI (Pnn (rdT c t).2.1)) q a b f u e' r np2 nn2 q2 b1 b2 b3 b4 b5 r1 r2 f2 hR2 hr1 hr2 hf2
    rw [← hR2.1] at this
    rw [hR2.1] at this ⊢
    exact this
  · intro J38 h38
    rw [if_neg e]
    exact h38 (h0 (fun o => e o.1) _ _ _ _ _ _ _ _ _ _)
theorem r_lay {len : Int32} {ls : Nat → Int32} {c : Nat} {t : Nat → Nat} {kn kp sg : Int32} {told dr bg s : Nat → Int32} {K : Int32 → Int32 → Int32 → Int32 → Int32 → Int32 → (Nat → Int32) → (Nat → Int32) → (Nat → Int32) → (Nat → Int32) → Prop} (h : rX len ls c t) (hV : XV c t)
    (h0 : ¬ okL c t → ∀ x a d b, K (-2) x kn kp sg a told d b s)
    (h1 : okL c t → ∀ x a d b tl s', rT (rdT c t).2.1 tl → rS s' (rdT c t).2.2 (fun _ _ => 0) 0 0 → K (nI (Pnp (rdT c t).2.1)) x 0 0 0 a tl d b s') : wpX9_lay len kn kp sg ls told dr bg s K := by
  unfold wpX9_lay
  have hv := rdA_V (c := c) (t := t) 200 0 P00 w00 PV_00 WV_00
  have h6 : Pnp (rdT c t).2.1 ≤ 6 := hv.1.1
  have h8 : Pnn (rdT c t).2.1 ≤ 8 := hv.1.2.1
  refine p_readsAll h hV (fun e a d b hT hB => ?_) (fun e x a d b => ?_)
  · intro J27 h27
    rw [if_pos rfl, k0, k1, hT.1, hT.2.1]
    refine ⟨vl 0 _ (by omega) (by omega), ?_⟩
    refine it_eq (b := 0) (by omega) (by omega) (fun y => h27 (h0 (fun o => by have := o.2.1; omega) _ _ _ _)) (fun y => ?_)
    refine ⟨vl 1 _ (by omega) (by omega), ?_⟩
    refine it_eq (b := 0) (by omega) (by omega) (fun y2 => h27 (h0 (fun o => by have := o.2.2; omega) _ _ _ _)) (fun y2 => ?_)
    have o : okL c t := ⟨e, by omega, by omega⟩
    unfold wpX9_lays
    intro J2 h2
    suffices key : ∀ g, (∀ j, j < 0 → g j = d j) → J2 (nI 0) g from key told (fun j hj => absurd hj (by omega))
    refine kloop (J := fun k => ∀ g, (∀ j, j < k → g j = d j) → J2 (nI k) g) (N := 37) ?_ ?_
    · intro g hg
      refine h2 _ _ ?_
      rw [if_pos (show (37 : Int32) ≤ nI 37 by decide)]
      have hT2 : rT (rdT c t).2.1 g := by
        obtain ⟨u0, u1, u2, u3, u9, u15, u21, u29⟩ := hT
        refine ⟨?_, ?_, ?_, fun p hp => ?_, fun p hp => ?_, fun p hp => ?_, fun n hn => ?_, fun n hn => ?_⟩
        · rw [hg _ (by omega)]; exact u0
        · rw [hg _ (by omega)]; exact u1
        · rw [hg _ (by omega)]; exact u2
        · rw [hg _ (by omega)]; exact u3 p hp
        · rw [hg _ (by omega)]; exact u9 p hp
        · rw [hg _ (by omega)]; exact u15 p hp
        · rw [hg _ (by omega)]; exact u21 n hn
        · rw [hg _ (by omega)]; exact u29 n hn
      intro J28 h28
      suffices key : ∀ f, (∀ j, j < 0 → f j = if 48 ≤ j ∧ j ≤ 83 then b (j - 48) else 0) → J28 (nI 0) f from key s (fun j hj => absurd hj (by omega))
      refine kloop (J := fun k => ∀ f, (∀ j, j < k → f j = if 48 ≤ j ∧ j ≤ 83 then b (j - 48) else 0) → J28 (nI k) f) (N := 86) ?_ ?_
      · intro f hf
        refine h28 _ _ ?_
        rw [if_pos (show (86 : Int32) ≤ nI 86 by decide)]
        show vp_in 0 37 ∧ K (g 0) _ 0 0 0 a g d b f
        rw [hT2.1]
        refine ⟨vl 0 _ (by omega) (by omega), h1 o _ _ _ _ _ _ hT2 ⟨fun p hp n hn => ?_, fun i hi j hj => ?_, ?_, ?_⟩⟩
        · rw [hf _ (by omega), if_neg (by omega)]; rfl
        · rw [hf _ (by omega), if_pos (by omega), show 48 + 6 * i + j - 48 = 6 * i + j by omega]; exact hB i hi j hj
        · rw [hf _ (by omega), if_neg (by omega)]
        · rw [hf _ (by omega), if_neg (by omega)]
      · intro k hk hnx f hf
        refine h28 _ _ (it_le (a := 86) (by omega) (by omega) (fun y => absurd y (by omega)) (fun _ => ?_))
        have go : ∀ v, v = (if 48 ≤ k ∧ k ≤ 83 then b (k - 48) else 0) → J28 (nI k + 1) (upd f (nI k).toNatClampNeg v) := by
          intro v ev
          rw [nI_clamp (by omega), nI_1]
          refine hnx _ (fun j hj => ?_)
          by_cases z : j = k
          · subst z; rw [pk_us]; exact ev
          · rw [pk_un z]; exact hf j (by omega)
        refine p_i9 (lo := 48) (hi := 83) (by omega) (by omega) (by omega) (fun q => ?_) (fun q => ?_)
        · intro J63 h63
          refine i1 ?_
          rw [show (48 : Int32) = nI 48 from rfl, pk_sub q.1]
          refine ⟨vl _ _ (by omega) (by omega), h63 _ ⟨vl _ _ (by omega) (by omega), go _ ?_⟩⟩
          rw [if_pos q, nI_clamp (by omega)]
        · intro J63 h63
          refine i0 (h63 _ ⟨vl _ _ (by omega) (by omega), go _ ?_⟩)
          rw [if_neg q]
    · intro k hk hnx g hg
      refine h2 _ _ (it_le (a := 37) (by omega) (by omega) (fun y => absurd y (by omega)) (fun _ => ?_))
      rw [nI_clamp (by omega), nI_1]
      refine ⟨vl _ _ (by omega) (by omega), vl _ _ (by omega) (by omega), hnx _ (fun j hj => ?_)⟩
      by_cases z : j = k
      · subst z; exact pk_us
      · rw [pk_un z]; exact hg j (by omega)
  · intro J27 h27
    rw [if_neg e]
    exact h27 (h0 (fun o => e o.1) _ _ _ _)
/-! forget, wipe -/
theorem c_forget {gm : Int32} {K : Int32 → Int32 → Prop} (h : K gm 0) : wpX8_forget gm K := h
theorem r_forget {gm : Int32} {K : Int32 → Int32 → Prop} (h : K gm 0) : wpX9_forget gm K := h
theorem c_wipe {gm : Int32} {K : Int32 → Int32 → Prop} (h : K gm 0) : wpX8_wipe gm K := h
theorem r_wipe {gm : Int32} {K : Int32 → Int32 → Prop} (h : K gm 0) : wpX9_wipe gm K := h
