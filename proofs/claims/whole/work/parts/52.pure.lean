/-! pure: a day with one person -/
def dayTo (nn kind beds q : Nat) (unk cw st0 : Nat → Nat) : Nat → (Nat → Nat) × Nat
  | 0 => (st0, 0)
  | n + 1 => let r := dayTo nn kind beds q unk cw st0 n
    if r.1 n = 0 then (if cw n = 0 then r else match comeS nn kind beds q unk r.1 n (cw n) with
      | some st' => (st', r.2)
      | none => (r.1, r.2 + 2 ^ n))
    else (uA r.1 n (lvS kind (r.1 n) (cw n)), r.2)
def eatS (food : Nat) (eat st : Nat → Nat) : Nat → Nat := if food < sumL st eat 8 then thinS st else st
def dayS (nn kind beds food q : Nat) (unk eat cw st : Nat → Nat) : (Nat → Nat) × Nat :=
  if kind = 4 then (st, 0) else
    (eatS food eat (dayTo nn kind beds q unk cw st nn).1, (dayTo nn kind beds q unk cw st nn).2)
theorem V.uA {st : Nat → Nat} (h : V st) (n v : Nat) (hv : v < 10) : V (uA st n v) := by
  intro k
  unfold Jvm.Pilot.CLodgingNamesLaw_law_r6725_125e6a.uA
  split
  · exact hv
  · exact h k
theorem V.thin {st : Nat → Nat} (h : V st) : V (thinS st) := h.uA _ _ (by have := h (stoTo st 8); omega)
theorem V.come {nn kind beds q n w : Nat} {unk st st' : Nat → Nat} (h : V st) (hw : w < 10) (e : comeS nn kind beds q unk st n w = some st') : V st' := by
  unfold comeS at e
  split at e
  · cases e
  · split at e
    · cases e; exact h.uA _ _ hw
    · split at e
      · cases e
      · split at e
        · cases e; exact (h.uA _ _ (by omega)).uA _ _ hw
        · cases e
theorem V.dayTo {nn kind beds q : Nat} {unk cw st : Nat → Nat} (h : V st) (hc : ∀ k, cw k < 7) : ∀ n, V (dayTo nn kind beds q unk cw st n).1 := by
  intro n
  induction n with
  | zero => exact h
  | succ n ih =>
    have hcn := hc n
    unfold Jvm.Pilot.CLodgingNamesLaw_law_r6725_125e6a.dayTo
    dsimp only
    split
    · split
      · exact ih
      · split
        · rename_i st' e
          exact ih.come (by omega) e
        · exact ih
    · exact ih.uA _ _ (lvS_lt _ _ _ (ih n))
theorem V.eat {food : Nat} {eat st : Nat → Nat} (h : V st) : V (eatS food eat st) := by
  unfold eatS
  split
  · exact h.thin
  · exact h
theorem V.day {nn kind beds food q : Nat} {unk eat cw st : Nat → Nat} (h : V st) (hc : ∀ k, cw k < 7) : V (dayS nn kind beds food q unk eat cw st).1 := by
  unfold dayS
  split
  · exact h
  · exact (h.dayTo hc nn).eat
def Z (nn : Nat) (st : Nat → Nat) : Prop := ∀ k, nn ≤ k → st k = 0
theorem Z.uA {nn n v : Nat} {st : Nat → Nat} (h : Z nn st) (hn : n < nn) : Z nn (uA st n v) := by
  intro k hk
  rw [uA_n _ _ (by omega)]
  exact h k hk
theorem Z.come {nn kind beds q n w : Nat} {unk st st' : Nat → Nat} (h : Z nn st) (hn : n < nn) (e : comeS nn kind beds q unk st n w = some st') : Z nn st' := by
  unfold comeS at e
  split at e
  · cases e
  · split at e
    · cases e; exact h.uA hn
    · split at e
      · cases e
      · rename_i g hg
        have hg8 := kindTo_lt _ _ _ _ hg
        split at e
        · cases e; exact (h.uA hg8).uA hn
        · cases e
theorem Z.dayTo {nn kind beds q : Nat} {unk cw st : Nat → Nat} (h : Z nn st) : ∀ n, n ≤ nn → Z nn (dayTo nn kind beds q unk cw st n).1 := by
  intro n
  induction n with
  | zero => intro _; exact h
  | succ n ih =>
    intro hn
    have i := ih (by omega)
    unfold Jvm.Pilot.CLodgingNamesLaw_law_r6725_125e6a.dayTo
    dsimp only
    split
    · split
      · exact i
      · split
        · rename_i st' e
          exact i.come (by omega) e
        · exact i
    · exact i.uA (by omega)
theorem Z.thin {nn : Nat} {st : Nat → Nat} (h : Z nn st) : Z nn (thinS st) := by
  intro k hk
  unfold thinS Jvm.Pilot.CLodgingNamesLaw_law_r6725_125e6a.uA
  split
  · rename_i e
    rw [← e, h k hk]
  · exact h k hk
theorem Z.day {nn kind beds food q : Nat} {unk eat cw st : Nat → Nat} (h : Z nn st) : Z nn (dayS nn kind beds food q unk eat cw st).1 := by
  unfold dayS
  split
  · exact h
  · show Z nn (eatS _ _ _)
    unfold eatS
    split
    · exact (h.dayTo nn (Nat.le_refl _)).thin
    · exact h.dayTo nn (Nat.le_refl _)
theorem dayTo_b {nn kind beds q : Nat} {unk cw st : Nat → Nat} : ∀ n, (dayTo nn kind beds q unk cw st n).2 < 2 ^ n := by
  intro n
  induction n with
  | zero => exact Nat.one_pos
  | succ n ih =>
    have e : 2 ^ (n + 1) = 2 ^ n + 2 ^ n := by rw [Nat.pow_succ]; omega
    unfold dayTo
    dsimp only
    split
    · split
      · omega
      · split <;> (dsimp only; omega)
    · dsimp only; omega
theorem or_bit : ∀ n, n < 8 → ∀ b, b < 2 ^ n → (nI b ||| (1 <<< (nI n &&& 31))) = nI (b + 2 ^ n) := by decide +kernel
def cwR (R : Nat) : Nat → Nat := fun n => pop8 (cal R n)
theorem cwR_lt (R : Nat) : ∀ n, cwR R n < 7 := fun n => pop8_6 _ (cal_lt R n)
theorem p_passDay {nn kind beds food q R : Nat} {unk eat st : Nat → Nat} {hs pu pe : Nat → Int32} {K : Int32 → (Nat → Int32) → Prop} (hnn : nn ≤ 8) (hkd : kind < 5) (hbd : beds < 11) (hfd : food < 31) (hq : q < 21) (hR : R < 2 ^ 64) (hv : V st) (hu : ∀ k, unk k < 21) (he : ∀ k, eat k < 10) (hst : Rp 8 hs st) (hpu : Rp nn pu unk)
    (hpe : Rp nn pe eat) (hz : Z nn st)
    (h : ∀ f, Rp 8 f (dayS nn kind beds food q unk eat (cwR R) st).1 → K (nI (dayS nn kind beds food q unk eat (cwR R) st).2) f) : wpX0_passDay (nI kind) (nI beds) (nI food) (lN R) hs (nI nn) (nI q) pu pe K := by
  unfold wpX0_passDay
  refine it_eq (a := kind) (b := 4) (by omega) (by omega) (fun h4 => ?_) (fun h4 => ?_)
  · have e : dayS nn kind beds food q unk eat (cwR R) st = (st, 0) := by unfold dayS; rw [if_pos h4]
    rw [e] at h
    exact h hs hst
  · have e : dayS nn kind beds food q unk eat (cwR R) st = (eatS food eat (dayTo nn kind beds q unk (cwR R) st nn).1, (dayTo nn kind beds q unk (cwR R) st nn).2) := by unfold dayS; rw [if_neg h4]
    rw [e] at h
    intro J hJ
    suffices key : ∀ f, Rp 8 f (dayTo nn kind beds q unk (cwR R) st 0).1 → J (nI (dayTo nn kind beds q unk (cwR R) st 0).2) (nI 0) f from key hs hst
    refine kloop (J := fun k => ∀ f, Rp 8 f (dayTo nn kind beds q unk (cwR R) st k).1 → J (nI (dayTo nn kind beds q unk (cwR R) st k).2) (nI k) f) (N := nn) ?_ ?_
    · intro f hf
      have hv' := hv.dayTo (nn := nn) (kind := kind) (beds := beds) (q := q) (unk := unk) (cwR_lt R) nn
      have hz' := hz.dayTo (kind := kind) (beds := beds) (q := q) (unk := unk) (cw := cwR R) nn (Nat.le_refl _)
      refine hJ _ _ _ (it_le (a := nn) (b := nn) (by omega) (by omega) (fun _ => ?_) (fun q => absurd q (by omega)))
      refine p_together hv' hf (fun k hk h0 => hpe k (by
        rcases Nat.lt_or_ge k nn with z | z
        · exact z
        · exact absurd (hz' k z) h0)) ?_
      have hsm : sumL (dayTo nn kind beds q unk (cwR R) st nn).1 eat 8 ≤ 8 * 10 := sumL_le (fun k => by have := he k; omega) 8
      refine it_le (a := sumL (dayTo nn kind beds q unk (cwR R) st nn).1 eat 8) (b := food) (by omega) (by omega) (fun h1 => ?_) (fun h1 => ?_)
      · refine h f ?_
        unfold eatS
        rw [if_neg (by omega)]
        exact hf
      · refine p_thinStoutest hv' hf ?_
        intro f' hf'
        refine h f' ?_
        unfold eatS
        rw [if_pos h1]
        exact hf'
    · intro k hk hnx f hf
      have hv' := hv.dayTo (nn := nn) (kind := kind) (beds := beds) (q := q) (unk := unk) (cwR_lt R) k
      have hb := dayTo_b (nn := nn) (kind := kind) (beds := beds) (q := q) (unk := unk) (cw := cwR R) (st := st) k
      have hc := cwR_lt R k
      refine hJ _ _ _ (it_le (a := nn) (b := k) (by omega) (by omega) (fun q => absurd q (by omega)) (fun _ => ?_))
      refine p_callers hR (by omega) ?_
      refine p_bit32 (by have := cal_lt R k; omega) ?_
      refine p_atR hf (by omega) (by omega) (by decide) ?_
      intro J2 hJ2
      have hvk := hv' k
      generalize hd : dayTo nn kind beds q unk (cwR R) st k = d at hf hv' hb hvk ⊢
      have en : dayTo nn kind beds q unk (cwR R) st (k + 1) = if d.1 k = 0 then (if cwR R k = 0 then d else match comeS nn kind beds q unk d.1 k (cwR R k) with
          | some st' => (st', d.2)
          | none => (d.1, d.2 + 2 ^ k)) else (uA d.1 k (lvS kind (d.1 k) (cwR R k)), d.2) := by
        conv => lhs; unfold dayTo
        rw [hd]
      rw [en] at hnx
      show if nI (d.1 k) ≤ 0 then _ else _
      refine it_le (a := d.1 k) (b := 0) (by omega) (by omega) (fun h1 => ?_) (fun h1 => ?_)
      · rw [if_pos (show d.1 k = 0 by omega)] at hnx
        show if nI (cwR R k) ≤ 0 then _ else _
        refine it_le (a := cwR R k) (b := 0) (by omega) (by omega) (fun h2 => ?_) (fun h2 => ?_)
        · rw [if_pos (show cwR R k = 0 by omega)] at hnx
          refine hJ2 _ _ ?_
          rw [nI_1]
          exact hnx f hf
        · rw [if_neg (show ¬ cwR R k = 0 by omega)] at hnx
          refine p_takeIn (w := cwR R k) hnn hkd hbd hq hk hv' hu hf hpu ?_ ?_
          · intro hno
            rw [hno] at hnx
            rw [if_pos rfl]
            intro x hx
            rw [hx, or_bit k (by omega) _ hb]
            refine hJ2 _ _ ?_
            rw [nI_1]
            exact hnx f hf
          · intro st' hyes f' hf'
            rw [hyes] at hnx
            rw [if_neg (show ¬ (1 : Int32) = 0 by decide)]
            refine hJ2 _ _ ?_
            rw [nI_1]
            exact hnx f' hf'
      · rw [if_neg (show ¬ d.1 k = 0 by omega)] at hnx
        refine p_liveOn (w := cwR R k) hkd (by omega) hv' (by omega) hf ?_
        intro f' hf'
        refine hJ2 _ _ ?_
        rw [nI_1]
        exact hnx f' hf'
