/-! pure: the text: items, the class -/
def rdI (c : Nat) (t : Nat → Nat) (k : Nat) (P : aP) (w : aW) : Option (Nat × aP × aW) :=
  if lt c t k = 112 then
    match rdN c t (k + 1) 44 with
    | some (a, k1) => match rdN c t k1 44 with
      | some (b, k2) => match rdN c t k2 59 with
        | some (f, k3) => if okP P a b f then some (k3, tlP P a b f, w) else none
        | none => none
      | none => none
    | none => none
  else if lt c t k = 110 then
    match rdN c t (k + 1) 44 with
    | some (a, k1) => match rdN c t k1 59 with
      | some (b, k2) => if okN P a b then some (k2, tlN P a b, w) else none
      | none => none
    | none => none
  else if lt c t k = 99 then
    match rdN c t (k + 1) 44 with
    | some (a, k1) => match rdN c t k1 44 with
      | some (b, k2) => match rdN c t k2 59 with
        | some (f, k3) => if okW P w a b f then some (k3, P, wf w a b f) else none
        | none => none
      | none => none
    | none => none
  else if lt c t k = 113 then
    match rdN c t (k + 1) 59 with
    | some (a, k1) => if okQ a then some (k1, tlQ P a, w) else none
    | none => none
  else none
theorem rdI_V {c : Nat} {t : Nat → Nat} {k : Nat} {P : aP} {w : aW} {q : Nat × aP × aW} (hP : PV P) (hW : WV P w) (h : rdI c t k P w = some q) : k < q.1 ∧ q.1 ≤ c ∧ PV q.2.1 ∧ WV q.2.1 q.2.2 := by
  unfold rdI at h
  split at h
  · split at h
    · rename_i a k1 e1
      have s1 := rdN_s (by omega) e1
      split at h
      · rename_i b k2 e2
        have s2 := rdN_s (by omega) e2
        split at h
        · rename_i f k3 e3
          have s3 := rdN_s (by omega) e3
          split at h
          · rename_i o
            cases h
            exact ⟨by dsimp only; omega, by dsimp only; omega, hP.tlP o, WV_P hW⟩
          · cases h
        · cases h
      · cases h
    · cases h
  · split at h
    · split at h
      · rename_i a k1 e1
        have s1 := rdN_s (by omega) e1
        split at h
        · rename_i b k2 e2
          have s2 := rdN_s (by omega) e2
          split at h
          · rename_i o
            cases h
            exact ⟨by dsimp only; omega, by dsimp only; omega, hP.tlN o, WV_N hW⟩
          · cases h
        · cases h
      · cases h
    · split at h
      · split at h
        · rename_i a k1 e1
          have s1 := rdN_s (by omega) e1
          split at h
          · rename_i b k2 e2
            have s2 := rdN_s (by omega) e2
            split at h
            · rename_i f k3 e3
              have s3 := rdN_s (by omega) e3
              split at h
              · rename_i o
                cases h
                exact ⟨by dsimp only; omega, by dsimp only; omega, hP, hW.flip hP.1 hP.2.1 o.1 o.2.1 o.2.2.1 o.2.2.2.1 o.2.2.2.2⟩
              · cases h
            · cases h
          · cases h
        · cases h
      · split at h
        · split at h
          · rename_i a k1 e1
            have s1 := rdN_s (by omega) e1
            split at h
            · rename_i o
              cases h
              exact ⟨by dsimp only; omega, by dsimp only; omega, hP.tlQ o, hW⟩
            · cases h
          · cases h
        · cases h
def rdA (c : Nat) (t : Nat → Nat) : Nat → Nat → aP → aW → Int32 × aP × aW
  | 0, _, P, w => (-4, P, w)
  | n + 1, k, P, w => if c ≤ k then (-4, P, w) else match rdI c t k P w with
    | some q => rdA c t n q.1 q.2.1 q.2.2
    | none => (nI k, P, w)
theorem p_item {len : Int32} {ls : Nat → Int32} {c : Nat} {t : Nat → Nat} {k : Nat} {P : aP} {w : aW} {nums : Nat → Int32} {np nn q : Int32} {kinds beds foods pu pe : Nat → Int32} {rows : Nat → Int64} {KJ : Int32 → (Nat → Int32) → Int32 → Int32 → Int32 → (Nat → Int32) → (Nat → Int32) → (Nat → Int32) → (Nat → Int32) → (Nat → Int32) → (Nat → Int64) → Prop} {KF : (Nat → Int32) → Int32 → Int32 → Int32 → (Nat → Int32) → (Nat → Int32) → (Nat → Int32) → (Nat → Int32) → (Nat → Int32) → (Nat → Int64) → Prop}
    (h : rX len ls c t) (hV : XV c t) (hk : k < c) (hP : PV P) (hR : rPt P np nn q kinds beds foods pu pe) (hwr : rW rows w)
    (hJ : ∀ k' P' w', rdI c t k P w = some (k', P', w') → ∀ nums np nn q a b f u e r, rPt P' np nn q a b f u e → rW r w' → KJ (nI k') nums np nn q a b f u e r)
    (hF : rdI c t k P w = none → ∀ nums np nn q a b f u e r, KF nums np nn q a b f u e r) :
    wpX6_numbersOf (nI (lt c t k)) (fun r_18 => wpX6_readNumbers len ls nums (nI k + 1) r_18 (fun r_19 t20 => if r_19 < 0 then KF t20 np nn q kinds beds foods pu pe rows else wpX8_at 3 t20 0 (fun r21 => wpX8_at 3 t20 1 (fun r22 => wpX8_at 3 t20 2 (fun r23 => wpX3_tell np nn q kinds beds foods pu pe rows (nI (lt c t k)) r21 r22 r23 (fun r24 np' nn' q' a' b' f' u' e' r' => if r24 = 0 then KF t20 np' nn' q' a' b' f' u' e' r' else KJ r_19 t20 np' nn' q' a' b' f' u' e' r')))))) := by
  have hc := h.2.1
  have hl := lt_lt hV k
  obtain ⟨h6, h8, -⟩ := hP
  obtain ⟨e1, e2, e3, r4, r5, r6, r7, r8⟩ := hR
  subst e1; subst e2; subst e3
  obtain ⟨L, eL⟩ : ∃ L, lt c t k = L := ⟨_, rfl⟩
  unfold rdI at hJ hF
  rw [eL] at hJ hF hl ⊢
  have neg : ∀ {A B : Prop}, A → (if (-1 : Int32) < 0 then A else B) := fun ha => by rw [if_pos (by decide)]; exact ha
  have pos : ∀ {k : Nat} {A B : Prop}, k < 1000 → B → (if nI k < 0 then A else B) := fun hk hb => by rw [if_neg (nI_pos (by omega))]; exact hb
  unfold wpX6_numbersOf
  rw [nI_1]
  refine it_eq (b := 99) (by omega) (by omega) (fun y => ?_) (fun y1 => it_eq (b := 110) (by omega) (by omega) (fun y => ?_) (fun y2 => it_eq (b := 112) (by omega) (by omega) (fun y => ?_) (fun y3 => it_eq (b := 113) (by omega) (by omega) (fun y => ?_) (fun y4 => ?_))))
  · subst y
    rw [if_neg (by omega), if_neg (by omega), if_pos rfl] at hJ hF
    refine p_rn3 h hV (by omega) (fun a k1 b k2 f k3 e1 e2 e3 n' m0 m1 m2 => ?_) (fun e n' => neg (hF ?_ _ _ _ _ _ _ _ _ _ _))
    · have s1 := rdN_s (by omega) e1
      have s2 := rdN_s (by omega) e2
      have s3 := rdN_s (by omega) e3
      refine pos (by omega) (p_at (j := 0) (by omega) (by decide) (p_at (j := 1) (by omega) (by decide) (p_at (j := 2) (by omega) (by decide) ?_)))
      rw [m0, m1, m2]
      unfold wpX3_tell
      rw [if_pos (show nI 99 = 99 from rfl)]
      rw [e1] at hJ hF
      dsimp only at hJ hF
      rw [e2] at hJ hF
      dsimp only at hJ hF
      rw [e3] at hJ hF
      dsimp only at hJ hF
      refine p_tellW h6 h8 (by omega) (by omega) (by omega) hwr (fun o r hr => ⟨Or.inr rfl, i1 ?_⟩) (fun o => ⟨Or.inl rfl, i0 ?_⟩)
      · rw [if_pos o] at hJ
        exact hJ _ _ _ rfl _ _ _ _ _ _ _ _ _ _ ⟨rfl, rfl, rfl, r4, r5, r6, r7, r8⟩ hr
      · rw [if_neg o] at hF
        exact hF rfl _ _ _ _ _ _ _ _ _ _
    · cases e1 : rdN c t (k + 1) 44 with
      | none => rfl
      | some v1 =>
        dsimp only
        cases e2 : rdN c t v1.2 44 with
        | none => rfl
        | some v2 => dsimp only; rw [e _ _ _ _ e1 e2]
  · subst y
    rw [if_neg (by omega), if_pos rfl] at hJ hF
    refine p_rn2 h hV (by omega) (fun a k1 b k2 e1 e2 n' m0 m1 => ?_) (fun e n' => neg (hF ?_ _ _ _ _ _ _ _ _ _ _))
    · have s1 := rdN_s (by omega) e1
      have s2 := rdN_s (by omega) e2
      refine pos (by omega) (p_at (j := 0) (by omega) (by decide) (p_at (j := 1) (by omega) (by decide) (p_at (j := 2) (by omega) (by decide) ?_)))
      rw [m0, m1]
      unfold wpX3_tell
      rw [if_neg (show ¬ nI 110 = 99 by decide), if_pos (show nI 110 = 110 from rfl)]
      rw [e1] at hJ hF
      dsimp only at hJ hF
      rw [e2] at hJ hF
      dsimp only at hJ hF
      refine p_tellN (P := P) h8 (by omega) (by omega) r7 r8 (fun o u' e' hu he => ⟨Or.inr rfl, i1 ?_⟩) (fun o => ⟨Or.inl rfl, i0 ?_⟩)
      · rw [if_pos o] at hJ
        exact hJ _ _ _ rfl _ _ _ _ _ _ _ _ _ _ ⟨rfl, rfl, rfl, r4, r5, r6, hu, he⟩ hwr
      · rw [if_neg o] at hF
        exact hF rfl _ _ _ _ _ _ _ _ _ _
    · cases e1 : rdN c t (k + 1) 44 with
      | none => rfl
      | some v1 => dsimp only; rw [e _ _ e1]
  · subst y
    rw [if_pos rfl] at hJ hF
    refine p_rn3 h hV (by omega) (fun a k1 b k2 f k3 e1 e2 e3 n' m0 m1 m2 => ?_) (fun e n' => neg (hF ?_ _ _ _ _ _ _ _ _ _ _))
    · have s1 := rdN_s (by omega) e1
      have s2 := rdN_s (by omega) e2
      have s3 := rdN_s (by omega) e3
      refine pos (by omega) (p_at (j := 0) (by omega) (by decide) (p_at (j := 1) (by omega) (by decide) (p_at (j := 2) (by omega) (by decide) ?_)))
      rw [m0, m1, m2]
      unfold wpX3_tell
      rw [if_neg (show ¬ nI 112 = 99 by decide), if_neg (show ¬ nI 112 = 110 by decide), if_pos (show nI 112 = 112 from rfl)]
      rw [e1] at hJ hF
      dsimp only at hJ hF
      rw [e2] at hJ hF
      dsimp only at hJ hF
      rw [e3] at hJ hF
      dsimp only at hJ hF
      refine p_tellP (P := P) h6 (by omega) (by omega) (by omega) r4 r5 r6 (fun o k' b' f' hk' hb' hf' => ⟨Or.inr rfl, i1 ?_⟩) (fun o => ⟨Or.inl rfl, i0 ?_⟩)
      · rw [if_pos o] at hJ
        exact hJ _ _ _ rfl _ _ _ _ _ _ _ _ _ _ ⟨rfl, rfl, rfl, hk', hb', hf', r7, r8⟩ hwr
      · rw [if_neg o] at hF
        exact hF rfl _ _ _ _ _ _ _ _ _ _
    · cases e1 : rdN c t (k + 1) 44 with
      | none => rfl
      | some v1 =>
        dsimp only
        cases e2 : rdN c t v1.2 44 with
        | none => rfl
        | some v2 => dsimp only; rw [e _ _ _ _ e1 e2]
  · subst y
    rw [if_neg (by omega), if_neg (by omega), if_neg (by omega), if_pos rfl] at hJ hF
    refine p_rn1 h hV (by omega) (fun a k1 e1 n' m0 => ?_) (fun e n' => neg (hF ?_ _ _ _ _ _ _ _ _ _ _))
    · have s1 := rdN_s (by omega) e1
      refine pos (by omega) (p_at (j := 0) (by omega) (by decide) (p_at (j := 1) (by omega) (by decide) (p_at (j := 2) (by omega) (by decide) ?_)))
      rw [m0]
      unfold wpX3_tell
      rw [if_neg (show ¬ nI 113 = 99 by decide), if_neg (show ¬ nI 113 = 110 by decide), if_neg (show ¬ nI 113 = 112 by decide), if_pos (show nI 113 = 113 from rfl)]
      rw [e1] at hJ hF
      dsimp only at hJ hF
      refine p_tellQ (by omega) (fun o => ⟨Or.inr rfl, i1 ?_⟩) (fun o => ⟨Or.inl rfl, i0 ?_⟩)
      · rw [if_pos o] at hJ
        exact hJ _ _ _ rfl _ _ _ _ _ _ _ _ _ _ ⟨rfl, rfl, rfl, r4, r5, r6, r7, r8⟩ hwr
      · rw [if_neg o] at hF
        exact hF rfl _ _ _ _ _ _ _ _ _ _
    · rw [e]
  · rw [if_neg y3, if_neg y2, if_neg y1, if_neg y4] at hF
    exact p_rn0 (fun n' => neg (hF rfl _ _ _ _ _ _ _ _ _ _))
def P00 : aP := (0, 0, 8, fun _ => 0, fun _ => 0, fun _ => 0, fun _ => 0, fun _ => 0)
def w00 : aW := fun _ _ _ => false
theorem PV_00 : PV P00 := ⟨by decide, by decide, ⟨by decide, by decide⟩, fun _ => by show 0 < 5; omega, fun _ => by show 0 < 11; omega, fun _ => by show 0 < 31; omega, fun _ => by show 0 < 21; omega, fun _ => by show 0 < 10; omega⟩
theorem WV_00 : WV P00 w00 := by
  refine ⟨fun i j n e => ?_, ?_⟩
  · exact absurd e (by show ¬ (false = true); decide)
  · have e : tot w00 = nsum (fun k => nsum (fun n => bI (w00 (k / 6) (k % 6) n)) 8) 36 := tot_eq w00
    have e2 : nsum (fun k => nsum (fun n => bI (w00 (k / 6) (k % 6) n)) 8) 36 = 0 := by
      have : (fun k => nsum (fun n => bI (w00 (k / 6) (k % 6) n)) 8) = fun _ => 0 := by
        funext k
        exact nsum_0 8
      rw [this, nsum_0]
    omega
abbrev rdT (c : Nat) (t : Nat → Nat) : Int32 × aP × aW := rdA c t 200 0 P00 w00
theorem p_readInto {len : Int32} {ls : Nat → Int32} {c : Nat} {t : Nat → Nat} {nums : Nat → Int32} {kinds beds foods pu pe : Nat → Int32} {rows : Nat → Int64} {K : Int32 → (Nat → Int32) → Int32 → Int32 → Int32 → (Nat → Int32) → (Nat → Int32) → (Nat → Int32) → (Nat → Int32) → (Nat → Int32) → (Nat → Int64) → Prop} (h : rX len ls c t) (hV : XV c t)
    (hK : (rdT c t).1 = -4 → ∀ nums np nn q a b f u e r, rPt (rdT c t).2.1 np nn q a b f u e → rW r (rdT c t).2.2 → K (-4) nums np nn q a b f u e r)
    (hF : ¬ (rdT c t).1 = -4 → ∀ nums np nn q a b f u e r, K (rdT c t).1 nums np nn q a b f u e r) : wpX6_readInto len ls nums kinds beds foods pu pe rows K := by
  have hc := h.2.1
  obtain ⟨T, eT⟩ : ∃ T, rdT c t = T := ⟨_, rfl⟩
  rw [eT] at hK hF
  have ne4' : ∀ {x : Nat}, x < 1000 → nI x ≠ -4 := by
    intro x hx e
    have := congrArg Int32.toInt e
    rw [nI_toInt (by omega)] at this
    have e4 : (-4 : Int32).toInt = -4 := by decide
    omega
  unfold wpX6_readInto wpX3_clear
  refine p_wclear ?_
  intro r0 hr0 J8 h8
  have hW0 := WV_00
  suffices key : ∀ k P w nums np nn q a b f u e r, k ≤ c → PV P → WV P w → rPt P np nn q a b f u e → rW r w → rdA c t (200 - 0) k P w = T → J8 (nI k) (nI 0) nums np nn q a b f u e r from key 0 P00 w00 _ _ _ _ _ _ _ _ _ _ (by omega) PV_00 hW0 ⟨rfl, rfl, rfl, fun k hk => absurd hk (by show ¬ k < 0; omega), fun k hk => absurd hk (by show ¬ k < 0; omega), fun k hk => absurd hk (by show ¬ k < 0; omega), fun k hk => absurd hk (by show ¬ k < 0; omega), fun k hk => absurd hk (by show ¬ k < 0; omega)⟩ hr0 eT
  refine kloop (J := fun i => ∀ k P w nums np nn q a b f u e r, k ≤ c → PV P → WV P w → rPt P np nn q a b f u e → rW r w → rdA c t (200 - i) k P w = T → J8 (nI k) (nI i) nums np nn q a b f u e r) (N := 200) ?_ ?_
  · intro k P w nums np nn q a b f u e r hk hP hW hR hr hT
    refine h8 _ _ _ _ _ _ _ _ _ _ _ _ ?_
    intro J93 h93
    rw [if_pos (show (200 : Int32) ≤ nI 200 by decide)]
    have hT2 : T = (-4, P, w) := hT.symm
    subst hT2
    exact h93 (hK rfl _ _ _ _ _ _ _ _ _ _ hR hr)
  · intro i hi hnx k P w nums np nn q a b f u e r hk hP hW hR hr hT
    refine h8 _ _ _ _ _ _ _ _ _ _ _ _ ?_
    intro J93 h93
    refine it_le (a := 200) (by omega) (by omega) (fun y => absurd y (by omega)) (fun _ => ?_)
    rw [show 200 - i = (200 - (i + 1)) + 1 by omega] at hT
    unfold rdA at hT
    rw [h.1]
    refine it_le (by omega) (by omega) (fun y => ?_) (fun y => ?_)
    · rw [if_pos y] at hT
      subst hT
      exact h93 (hK rfl _ _ _ _ _ _ _ _ _ _ hR hr)
    · rw [if_neg (by omega)] at hT
      rw [← h.1]
      refine p_letterAt h (by omega) ?_
      refine p_item h hV y hP hR hr (fun k' P' w' e nums np nn q a b f u e' r hR' hr' => ?_) (fun e nums np nn q a b f u e' r => ?_)
      · have v := rdI_V hP hW e
        rw [e] at hT
        rw [nI_1]
        exact hnx k' P' w' _ _ _ _ _ _ _ _ _ _ v.2.1 v.2.2.1 v.2.2.2 hR' hr' hT
      · rw [e] at hT
        dsimp only at hT
        subst hT
        exact hF (ne4' (by omega)) _ _ _ _ _ _ _ _ _ _
