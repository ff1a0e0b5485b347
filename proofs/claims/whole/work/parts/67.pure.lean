/-! pure: homeless of the reference -/
theorem r_homelessA {P : aP} {told s held : Nat → Int32} {w : aW} {st : aT} {d l wo : Int32} {a F : Nat} {K : Int32 → Int32 → (Nat → Int32) → (Nat → Int32) → Prop} (hP : PV1 P) (hT : rT P told) (h : rS s w st d l) (hS : SV P w st) (ha : a ≤ 1) (hl : F ≤ 40) (ht : F < 40 → hoW P w st (Pnp P) F ≠ -4) (hf : ∀ k, k < F → hoW P w st (Pnp P) k = -4)
    (hK : ∀ wo s' held', rS s' w st d l → K (if F < 40 then (if a = 0 then hoW P w st (Pnp P) F else nI (F + 1)) else -4) wo s' held') : wpX9_homeless wo told s held (nI a) K := by
  have m41 : (41 : Int32) = nI 41 := rfl
  unfold wpX9_homeless
  refine p_in9 (lo := 0) (hi := 1) (by omega) (by omega) (fun n e1 => i1 ?_) (fun e1 => ?_)
  · refine p_holds ?_
    intro held2 hh2
    intro J hJ
    have fin : ∀ (v wo2 : Int32) (s2 : Nat → Int32), K v wo2 s2 held2 → K v wo2 s2 held2 := fun _ _ _ z => z
    have out : ∀ (v wo2 : Int32) (s2 : Nat → Int32), v = (if F < 40 then (if a = 0 then hoW P w st (Pnp P) F else nI (F + 1)) else -4) → wpX9_lets s2 held2 (fun x_s_7 => K v wo2 x_s_7 held2) := by
      intro v wo2 s2 hv
      refine p_lets ?_
      intro s3 hs3
      rw [hv]
      exact hK _ _ _ (rS_copy h (fun k hk => (hs3 k hk).trans (hh2 k hk)))
    suffices key : ∀ wo2 s2, rS s2 w (daysT P w st 0) (d + nI 0) (l + nI (lostN P w st 0)) → J (-4) (nI (0 + 1)) wo2 s2 by
      refine key wo s ?_
      rw [daysT_0, lostN_0, show nI 0 = (0 : Int32) from rfl, Int32.add_zero, Int32.add_zero]
      exact h
    have next : ∀ k wo2 s2, k < 40 → rS s2 w (daysT P w st k) (d + nI k) (l + nI (lostN P w st k)) → (∀ s3, rS s3 w (daysT P w st (k + 1)) (d + nI (k + 1)) (l + nI (lostN P w st (k + 1))) → (∀ J62 : Int32 → Prop, (∀ v, J v (nI (k + 1) + 1) (hoW P w st (Pnp P) k) s3 → J62 v) → if hoW P w st (Pnp P) k = -4 then J62 (-4) else if nI a = 0 then J62 (hoW P w st (Pnp P) k) else J62 (nI (k + 1)))) → J (-4) (nI (k + 1)) wo2 s2 := by
      intro k wo2 s2 hk hs2 hnx
      refine hJ _ _ _ _ ?_
      intro J69 h69
      rw [m41]
      refine it_le (by omega) (by omega) (fun z => absurd z (by omega)) (fun _ => ?_)
      rw [if_pos rfl]
      refine p_passes hP hT (hS.days k) hs2 ?_
      intro s3 hs3
      refine hnx s3 ?_
      rw [daysT_1, lostN_1, nI_succ, ← nI_add, ← Int32.add_assoc, ← Int32.add_assoc]
      exact hs3
    refine kloop (J := fun k => ∀ wo2 s2, rS s2 w (daysT P w st k) (d + nI k) (l + nI (lostN P w st k)) → J (-4) (nI (k + 1)) wo2 s2) (N := F) ?_ ?_
    · intro wo2 s2 hs2
      rcases Nat.lt_or_ge F 40 with z | z
      · refine next F wo2 s2 z hs2 ?_
        intro s3 hs3 J62 h62
        have hne := ht z
        rw [if_neg hne]
        have stop : ∀ v, v ≠ -4 → v = (if F < 40 then (if a = 0 then hoW P w st (Pnp P) F else nI (F + 1)) else -4) → J62 v := by
          intro v hv4 hv
          refine h62 v (hJ _ _ _ _ ?_)
          intro J69 h69
          have e := h69 (out v _ s3 hv)
          rw [if_neg hv4]
          split <;> exact e
        refine it_eq (b := 0) (by omega) (by omega) (fun y => ?_) (fun y => ?_)
        · refine stop _ hne ?_
          rw [if_pos z, if_pos y]
        · refine stop _ (ne4 (by omega)) ?_
          rw [if_pos z, if_neg y]
      · have e40 : F = 40 := by omega
        refine hJ _ _ _ _ ?_
        intro J69 h69
        rw [m41]
        refine it_le (by omega) (by omega) (fun _ => ?_) (fun y => absurd y (by omega))
        refine h69 (out _ _ _ ?_)
        rw [if_neg (by omega)]
    · intro k hk hkn wo2 s2 hs2
      refine next k wo2 s2 (by omega) hs2 ?_
      intro s3 hs3 J62 h62
      rw [hf k hk]
      rw [if_pos rfl]
      refine h62 _ ?_
      rw [nI_1]
      exact hkn _ s3 hs3
  · exfalso
    unfold rx at e1
    split at e1
    · cases e1
    · rename_i q
      rw [nI_toInt (by omega)] at q
      omega
theorem r_homeless {P : aP} {told s held : Nat → Int32} {w : aW} {st : aT} {d l wo : Int32} {x : Int32} {K : Int32 → Int32 → (Nat → Int32) → (Nat → Int32) → Prop} (hP : PV1 P) (hT : rT P told) (h : rS s w st d l) (hS : SV P w st)
    (hK : ∀ wo s' held', rS s' w st d l → K (aHomeless P w st x) wo s' held') : wpX9_homeless wo told s held x K := by
  unfold aHomeless at hK
  cases e : rx 0 1 x with
  | some a =>
    have hx := rx_some e
    rw [e] at hK
    dsimp only at hK
    rw [hx.2.2]
    refine r_homelessA (F := hoF P w st (Pnp P)) hP hT h hS hx.2.1 (fd_le _ 40) (fun z => ?_) (fun k hk => ?_) hK
    · have := fd_t (Q := hoQ P w st (Pnp P)) (n := 40) z
      exact of_decide_eq_true this
    · have := fd_f (Q := hoQ P w st (Pnp P)) (n := 40) hk
      exact Decidable.not_not.mp (of_decide_eq_false this)
  | none =>
    rw [e] at hK
    dsimp only at hK
    unfold wpX9_homeless
    exact p_in9 (lo := 0) (hi := 1) (by omega) (by omega) (fun n e1 => by rw [e] at e1; cases e1) (fun _ => i0 (hK _ _ _ h))
