/-! pure: fault, lay -/
theorem tot_00 : tot w00 = 0 := by
  have e : tot w00 = nsum (fun k => nsum (fun n => bI (w00 (k / 6) (k % 6) n)) 8) 36 := tot_eq w00
  have e2 : nsum (fun k => nsum (fun n => bI (w00 (k / 6) (k % 6) n)) 8) 36 = 0 := by
    have : (fun k => nsum (fun n => bI (w00 (k / 6) (k % 6) n)) 8) = fun _ => 0 := by
      funext k
      exact nsum_0 8
    rw [this, nsum_0]
  omega
theorem wm_00 (i j : Nat) : wm w00 i j = 0 := by
  symm
  exact bsum_eq (by decide) (fun m hm => by rw [Nat.zero_testBit]; rfl)
theorem p_begins {dr bg : Nat → Int32} {K : Int32 → (Nat → Int32) → (Nat → Int32) → Prop} (hK : ∀ d b, rT P00 d → rB b w00 → K 0 d b) : wpX9_begins dr bg K := by
  unfold wpX9_begins
  intro J2 h2
  suffices key : ∀ d, (∀ j, j < 0 → d j = 0) → J2 (nI 0) d from key dr (fun j hj => absurd hj (by omega))
  refine kloop (J := fun k => ∀ d, (∀ j, j < k → d j = 0) → J2 (nI k) d) (N := 37) ?_ ?_
  · intro d hd
    refine h2 _ _ ?_
    rw [if_pos (show (37 : Int32) ≤ nI 37 by decide), k2]
    refine ⟨vl 2 _ (by omega) (by omega), ?_⟩
    intro J31 h31
    suffices key : ∀ b, (∀ j, j < 0 → b j = 0) → J31 (nI 0) b from key bg (fun j hj => absurd hj (by omega))
    refine kloop (J := fun k => ∀ b, (∀ j, j < k → b j = 0) → J31 (nI k) b) (N := 36) ?_ ?_
    · intro b hb
      refine h31 _ _ ?_
      rw [if_pos (show (36 : Int32) ≤ nI 36 by decide)]
      refine hK _ _ ⟨?_, ?_, ?_, fun p hp => ?_, fun p hp => ?_, fun p hp => ?_, fun n hn => ?_, fun n hn => ?_⟩ (fun i hi j hj => ?_)
      · rw [pk_un (by omega), hd _ (by omega)]; rfl
      · rw [pk_un (by omega), hd _ (by omega)]; rfl
      · rw [pk_us]; rfl
      · rw [pk_un (by omega), hd _ (by omega)]; rfl
      · rw [pk_un (by omega), hd _ (by omega)]; rfl
      · rw [pk_un (by omega), hd _ (by omega)]; rfl
      · rw [pk_un (by omega), hd _ (by omega)]; rfl
      · rw [pk_un (by omega), hd _ (by omega)]; rfl
      · rw [wm_00, hb _ (by omega)]; rfl
    · intro k hk hnx b hb
      refine h31 _ _ (it_le (a := 36) (by omega) (by omega) (fun y => absurd y (by omega)) (fun _ => ?_))
      refine ⟨vl _ _ (by omega) (by omega), ?_⟩
      rw [nI_clamp (by omega), nI_1]
      refine hnx _ (fun j hj => ?_)
      by_cases e : j = k
      · subst e; exact pk_us
      · rw [pk_un e]; exact hb j (by omega)
  · intro k hk hnx d hd
    refine h2 _ _ (it_le (a := 37) (by omega) (by omega) (fun y => absurd y (by omega)) (fun _ => ?_))
    refine ⟨vl _ _ (by omega) (by omega), ?_⟩
    rw [nI_clamp (by omega), nI_1]
    refine hnx _ (fun j hj => ?_)
    by_cases e : j = k
    · subst e; exact pk_us
    · rw [pk_un e]; exact hd j (by omega)
theorem ne4w {x : Nat} (h : x < 1000) : nI x ≠ -4 := by
  intro e
  have := congrArg Int32.toInt e
  rw [nI_toInt (by omega)] at this
  have e4 : (-4 : Int32).toInt = -4 := by decide
  omega
theorem p_readsAll {len : Int32} {ls : Nat → Int32} {c : Nat} {t : Nat → Nat} {dr bg : Nat → Int32} {K : Int32 → Int32 → Int32 → (Nat → Int32) → (Nat → Int32) → Prop} (h : rX len ls c t) (hV : XV c t)
    (hK : (rdT c t).1 = -4 → ∀ a d b, rT (rdT c t).2.1 d → rB b (rdT c t).2.2 → K (-4) (nI (tot (rdT c t).2.2)) a d b)
    (hF : ¬ (rdT c t).1 = -4 → ∀ x a d b, K (rdT c t).1 x a d b) : wpX9_readsAll len ls dr bg K := by
  have hc := h.2.1
  obtain ⟨T, eT⟩ : ∃ T, rdT c t = T := ⟨_, rfl⟩
  rw [eT] at hK hF
  unfold wpX9_readsAll
  refine p_begins ?_
  intro d0 b0 hd0 hb0 J9 h9
  have key : ∀ n k P w d b, c ≤ k + n → k ≤ c → PV P → WV P w → rT P d → rB b w → rdA c t n k P w = T → J9 (nI (tot w)) (nI k) d b := by
    intro n
    induction n with
    | zero =>
      intro k P w d b hn hk hP hW hT hB e
      refine h9 _ _ _ _ ?_
      rw [h.1]
      refine it_le (by omega) (by omega) (fun _ => ?_) (fun y => absurd y (by omega))
      have e2 : T = (-4, P, w) := e.symm
      subst e2
      exact hK rfl _ _ _ hT hB
    | succ n ih =>
      intro k P w d b hn hk hP hW hT hB e
      unfold rdA at e
      refine h9 _ _ _ _ ?_
      rw [h.1]
      refine it_le (by omega) (by omega) (fun y => ?_) (fun y => ?_)
      · rw [if_pos y] at e
        subst e
        exact hK rfl _ _ _ hT hB
      · rw [if_neg (by omega)] at e
        rw [← h.1]
        refine ⟨vl _ _ (by omega) (by omega), ?_⟩
        rw [nI_clamp (by omega), nI_1, show ls k = nI (lt c t k) by unfold lt; rw [if_pos y]; exact h.2.2 k y]
        refine p_item9 h hV y hP hW hT hB (fun k' P' w' e1 d' b' hd' hb' => i1 ?_) (fun e1 x a d' b' => i0 ?_)
        · have v := rdI_V hP hW e1
          rw [e1] at e
          have v1 := v.1
          dsimp only at v1
          exact ih k' P' w' d' b' (by omega) v.2.1 v.2.2.1 v.2.2.2 hd' hb' e
        · rw [e1] at e
          dsimp only at e
          subst e
          exact hF (ne4w (by omega)) _ _ _ _
  have := key 200 0 P00 w00 d0 b0 (by omega) (by omega) PV_00 WV_00 hd0 hb0 eT
  rw [tot_00] at this
  exact this
theorem rdA_V {c : Nat} {t : Nat → Nat} : ∀ n k P w, PV P → WV P w → PV (rdA c t n k P w).2.1 ∧ WV (rdA c t n k P w).2.1 (rdA c t n k P w).2.2 := by
  intro n
  induction n with
  | zero => intro k P w hP hW; exact ⟨hP, hW⟩
  | succ n ih =>
    intro k P w hP hW
    unfold rdA
    split
    · exact ⟨hP, hW⟩
    · split
      · rename_i q e
        have v := rdI_V hP hW e
        exact ih _ _ _ v.2.2.1 v.2.2.2
      · exact ⟨hP, hW⟩
def aFault (c : Nat) (t : Nat → Nat) : Int32 := (rdT c t).1
theorem c_fault {len : Int32} {ls : Nat → Int32} {c : Nat} {t : Nat → Nat} {nums : Nat → Int32} {kinds beds foods pu pe : Nat → Int32} {rows : Nat → Int64} {K : Int32 → (Nat → Int32) → Int32 → Int32 → Int32 → (Nat → Int32) → (Nat → Int32) → (Nat → Int32) → (Nat → Int32) → (Nat → Int32) → (Nat → Int64) → Prop} (h : rX len ls c t) (hV : XV c t)
    (hK : ∀ nums np nn q a b f u e r, K (aFault c t) nums np nn q a b f u e r) : wpX8_fault len ls nums kinds beds foods pu pe rows K := by
  unfold wpX8_fault
  unfold aFault at hK
  refine p_readInto h hV (fun e => ?_) (fun e => hK)
  rw [e] at hK
  exact fun nums np nn q a b f u e r _ _ => hK nums np nn q a b f u e r
theorem r_fault {len : Int32} {ls : Nat → Int32} {c : Nat} {t : Nat → Nat} {dr bg : Nat → Int32} {K : Int32 → Int32 → Int32 → (Nat → Int32) → (Nat → Int32) → Prop} (h : rX len ls c t) (hV : XV c t) (hK : ∀ x a d b, K (aFault c t) x a d b) : wpX9_fault len ls dr bg K := by
  unfold wpX9_fault
  unfold aFault at hK
  refine p_readsAll h hV (fun e => ?_) (fun e => hK)
  rw [e] at hK
  exact fun a d b _ _ => hK _ a d b
