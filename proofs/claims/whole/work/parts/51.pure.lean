/-! pure: what happens with one person -/
def sumL (st row : Nat → Nat) : Nat → Nat
  | 0 => 0
  | k + 1 => sumL st row k + (if st k = 0 then 0 else row k)
def V (st : Nat → Nat) : Prop := ∀ k, st k < 10
theorem sumL_le {st row : Nat → Nat} {b : Nat} (h : ∀ k, row k ≤ b) : ∀ k, sumL st row k ≤ k * b := by
  intro k
  induction k with
  | zero => simp [sumL]
  | succ k ih =>
    have := h k
    rw [Nat.succ_mul]
    unfold sumL
    split <;> omega
theorem p_together {st row : Nat → Nat} {hs rf : Nat → Int32} {K : Int32 → Prop} (hv : V st) (hst : Rp 8 hs st) (hrow : ∀ k, k < 8 → st k ≠ 0 → rf k = nI (row k)) (h : K (nI (sumL st row 8))) : wpX0_together 8 hs rf K := by
  unfold wpX0_together
  intro J hJ
  refine kloop (J := fun k => J (nI (sumL st row k)) (nI k)) (N := 8) ?_ ?_
  · exact hJ _ _ (it_le (a := 8) (b := 8) (by omega) (by omega) (fun _ => h) (fun q => absurd q (by omega)))
  · intro k hk hn
    refine hJ _ _ (it_le (a := 8) (b := k) (by omega) (by omega) (fun q => absurd q (by omega)) (fun _ => ?_))
    refine p_atR hst hk hk (by decide) ?_
    intro J2 hJ2
    have hvk := hv k
    refine it_le (a := st k) (b := 0) (by omega) (by omega) (fun q => ?_) (fun q => ?_)
    · refine hJ2 _ ?_
      have e : sumL st row (k + 1) = sumL st row k := by
        show sumL st row k + (if st k = 0 then 0 else row k) = _
        rw [if_pos (by omega)]; rfl
      rw [nI_1, ← e]
      exact hn
    · refine p_at hk (by decide) ?_
      rw [hrow k hk (by omega)]
      intro x hx
      refine hJ2 _ ?_
      have e : sumL st row (k + 1) = sumL st row k + row k := by
        show sumL st row k + (if st k = 0 then 0 else row k) = _
        rw [if_neg (by omega)]
      rw [hx, nI_1, nI_add, ← e]
      exact hn
def lvS (kind s w : Nat) : Nat := if w = 0 then s - (if kind = 3 then 2 else 1) else if s + w < 9 then s + w else 9
theorem lvS_lt (kind s w : Nat) (hs : s < 10) : lvS kind s w < 10 := by
  unfold lvS
  split
  · split <;> omega
  · split <;> omega
theorem lv_thin : ∀ s, s < 10 → ∀ t, t < 3 → (if (0 : Int32) < (if nI s + -nI t < 9 then nI s + -nI t else 9) then (if nI s + -nI t < 9 then nI s + -nI t else 9) else 0) = nI (s - t) := by decide +kernel
theorem lv_fat : ∀ s, s < 10 → ∀ w, w < 7 → (if (0 : Int32) < (if nI s + nI w < 9 then nI s + nI w else 9) then (if nI s + nI w < 9 then nI s + nI w else 9) else 0) = nI (if s + w < 9 then s + w else 9) := by decide +kernel
theorem p_liveOn {kind n w : Nat} {st : Nat → Nat} {hs : Nat → Int32} {K : (Nat → Int32) → Prop} (hk : kind < 5) (hn : n < 8) (hv : V st) (hw : w < 7) (hst : Rp 8 hs st)
    (h : ∀ f, Rp 8 f (uA st n (lvS kind (st n) w)) → K f) : wpX0_liveOn (nI kind) hs (nI n) (nI w) K := by
  unfold wpX0_liveOn
  intro J hJ
  have main : ∀ t, t < 3 → t = (if kind = 3 then 2 else 1) → J (nI t) := by
    intro t ht et
    refine hJ _ ?_
    refine p_atR hst hn hn (by decide) ?_
    intro J2 hJ2
    refine it_le (a := w) (b := 0) (by omega) (by omega) (fun q => ?_) (fun q => ?_)
    · refine hJ2 _ ?_
      intro x hx
      refine p_put hn (by decide) ?_
      rw [hx, lv_thin _ (hv n) t ht]
      have e : st n - t = lvS kind (st n) w := by
        unfold lvS
        rw [if_pos (by omega), et]
      rw [e]
      exact h _ (hst.upd n _)
    · refine hJ2 _ ?_
      intro x hx
      refine p_put hn (by decide) ?_
      rw [hx, lv_fat _ (hv n) w hw]
      have e : (if st n + w < 9 then st n + w else 9) = lvS kind (st n) w := by
        unfold lvS
        rw [if_neg (show ¬ w = 0 by omega)]
      rw [e]
      exact h _ (hst.upd n _)
  refine it_eq (a := kind) (b := 3) (by omega) (by omega) (fun q => ?_) (fun q => ?_)
  · exact main 2 (by omega) (by rw [if_pos q])
  · exact main 1 (by omega) (by rw [if_neg q])
def stoTo (st : Nat → Nat) : Nat → Nat
  | 0 => 0
  | k + 1 => if st k ≤ st (stoTo st k) then stoTo st k else k
theorem stoTo_lt (st : Nat → Nat) : ∀ k, 0 < k → stoTo st k < k := by
  intro k
  induction k with
  | zero => intro h; omega
  | succ k ih =>
    intro _
    unfold stoTo
    split
    · rcases Nat.eq_zero_or_pos k with q | q
      · subst q; simp [stoTo]
      · have := ih q; omega
    · omega
def thinS (st : Nat → Nat) : Nat → Nat := uA st (stoTo st 8) (st (stoTo st 8) - 1)
theorem thin_1 : ∀ s, s < 10 → (if (0 : Int32) < (nI s - 1) then (nI s - 1) else 0) = nI (s - 1) := by decide +kernel
theorem p_thinStoutest {st : Nat → Nat} {hs : Nat → Int32} {K : (Nat → Int32) → Prop} (hv : V st) (hst : Rp 8 hs st) (h : ∀ f, Rp 8 f (thinS st) → K f) : wpX0_thinStoutest hs K := by
  unfold wpX0_thinStoutest
  intro J hJ
  suffices key : J (nI (stoTo st 1)) (nI 1) by
    rw [show stoTo st 1 = 0 by simp [stoTo]] at key
    exact key
  refine kloopA (J := fun k => J (nI (stoTo st k)) (nI k)) 1 8 (by omega) ?_ ?_
  · have h8 := stoTo_lt st 8 (by omega)
    refine hJ _ _ (it_le (a := 8) (b := 8) (by omega) (by omega) (fun _ => ?_) (fun q => absurd q (by omega)))
    refine p_atR hst h8 h8 (by decide) ?_
    refine p_put h8 (by decide) ?_
    rw [thin_1 _ (hv _)]
    exact h _ (hst.upd _ _)
  · intro k h1 hk hn
    have hlt := stoTo_lt st k h1
    refine hJ _ _ (it_le (a := 8) (b := k) (by omega) (by omega) (fun q => absurd q (by omega)) (fun _ => ?_))
    refine p_atR hst hk hk (by decide) ?_
    refine p_atR hst (by omega) (by omega) (by decide) ?_
    intro J2 hJ2
    have b1 := hv k
    have b2 := hv (stoTo st k)
    refine it_le (a := st k) (b := st (stoTo st k)) (by omega) (by omega) (fun q => ?_) (fun q => ?_)
    · refine hJ2 _ ?_
      have e : stoTo st (k + 1) = stoTo st k := by
        show (if st k ≤ st (stoTo st k) then stoTo st k else k) = _
        rw [if_pos q]
      rw [nI_1, ← e]
      exact hn
    · refine hJ2 _ ?_
      have e : stoTo st (k + 1) = k := by
        show (if st k ≤ st (stoTo st k) then stoTo st k else k) = _
        rw [if_neg (by omega)]
      rw [e] at hn
      rw [nI_1]
      exact hn
def kindTo (unk st : Nat → Nat) : Nat → Option Nat
  | 0 => none
  | m + 1 => if st m = 0 then kindTo unk st m else match kindTo unk st m with
    | none => some m
    | some f => if unk m ≤ unk f then some m else some f
theorem kindTo_lt (unk st : Nat → Nat) : ∀ k f, kindTo unk st k = some f → f < k := by
  intro k
  induction k with
  | zero => intro f h; simp [kindTo] at h
  | succ k ih =>
    intro f h
    unfold kindTo at h
    split at h
    · have := ih f h; omega
    · split at h
      · cases h; omega
      · rename_i g hg
        have := ih g hg
        split at h <;> (cases h; omega)
def cntTo (st : Nat → Nat) : Nat → Nat
  | 0 => 0
  | k + 1 => cntTo st k + (if st k = 0 then 0 else 1)
theorem cntTo_le (st : Nat → Nat) : ∀ k, cntTo st k ≤ k := by
  intro k
  induction k with
  | zero => exact Nat.le_refl 0
  | succ k ih => unfold cntTo; split <;> omega
def quaTo (q : Nat) (unk st : Nat → Nat) (n : Nat) : Nat → Bool
  | 0 => false
  | k + 1 => quaTo q unk st n k || (decide (0 < st k) && decide (q ≤ (unk n - unk k) + (unk k - unk n)))
def comeS (nn kind beds q : Nat) (unk st : Nat → Nat) (n w : Nat) : Option (Nat → Nat) :=
  if kind = 2 ∧ quaTo q unk st n nn = true then none
  else if cntTo st nn < beds then some (uA st n w)
  else match kindTo unk st nn with
    | none => none
    | some f => if unk f < unk n then some (uA (uA st f 0) n w) else none
def zI (o : Option Nat) : Int32 := match o with
  | none => -1
  | some f => nI f
def kU (unk : Nat → Nat) (n : Nat) (o : Option Nat) : Nat := match o with
  | none => unk n
  | some f => unk f
def bI (b : Bool) : Nat := if b then 1 else 0
theorem abs21 : ∀ a, a < 21 → ∀ b, b < 21 → (if (0 : Int32) ≤ (nI a - nI b) then (nI a - nI b) else 0 - (nI a - nI b)) = nI ((a - b) + (b - a)) := by decide +kernel
theorem or_b : ∀ a, a < 2 → ∀ b, b < 2 → nI a ||| nI b = nI (if a = 1 ∨ b = 1 then 1 else 0) := by decide +kernel
theorem p_takeIn {nn kind beds q n w : Nat} {unk st : Nat → Nat} {hs pu : Nat → Int32} {K : Int32 → (Nat → Int32) → Prop} (hnn : nn ≤ 8) (hkd : kind < 5) (hbd : beds < 11) (hq : q < 21) (hn : n < nn) (hv : V st) (hu : ∀ k, unk k < 21) (hst : Rp 8 hs st) (hpu : Rp nn pu unk)
    (hno : comeS nn kind beds q unk st n w = none → K 0 hs) (hyes : ∀ st', comeS nn kind beds q unk st n w = some st' → ∀ f, Rp 8 f st' → K 1 f) : wpX0_takeIn (nI kind) (nI beds) hs (nI nn) (nI q) pu (nI n) (nI w) K := by
  unfold wpX0_takeIn
  refine p_atR hpu (by omega) hn (by decide) ?_
  intro J hJ
  refine kloop (J := fun k => J (nI (cntTo st k)) (zI (kindTo unk st k)) (nI (kU unk n (kindTo unk st k))) (nI (bI (quaTo q unk st n k))) (nI k)) (N := nn) ?_ ?_
  · refine hJ _ _ _ _ _ (it_le (a := nn) (b := nn) (by omega) (by omega) (fun _ => ?_) (fun q => absurd q (by omega)))
    intro J2 hJ2
    have main : ¬ (kind = 2 ∧ quaTo q unk st n nn = true) → J2 := by
      intro hmay
      refine hJ2 ?_
      intro J3 hJ3
      have hc := cntTo_le st nn
      have fin : ∀ (st1 : Nat → Nat) (f : Nat → Int32), Rp 8 f st1 → comeS nn kind beds q unk st n w = some (uA st1 n w) → J3 f := by
        intro st1 f hf hs1
        refine hJ3 _ ?_
        refine p_put (by omega) (by decide) ?_
        exact hyes _ hs1 _ (hf.upd n w)
      refine it_lt (a := cntTo st nn) (b := beds) (by omega) (by omega) (fun h1 => ?_) (fun h1 => ?_)
      · refine fin st hs hst ?_
        unfold comeS
        rw [if_neg hmay, if_pos h1]
      · cases hk : kindTo unk st nn with
        | none =>
          have hun := hu n
          refine it_lt (a := unk n) (b := unk n) (by omega) (by omega) (fun h => absurd h (by omega)) (fun _ => ?_)
          refine hno ?_
          unfold comeS
          rw [if_neg hmay, if_neg (by omega), hk]
        | some f =>
          have hf8 := kindTo_lt unk st nn f hk
          have hun := hu n
          have huf := hu f
          refine it_lt (a := unk f) (b := unk n) (by omega) (by omega) (fun h2 => ?_) (fun h2 => ?_)
          · refine p_put (by omega) (by decide) ?_
            refine fin (uA st f 0) _ (hst.upd f 0) ?_
            unfold comeS
            rw [if_neg hmay, if_neg (by omega), hk]
            exact if_pos h2
          · refine hno ?_
            unfold comeS
            rw [if_neg hmay, if_neg (by omega), hk]
            exact if_neg (by omega)
    refine it_eq (a := kind) (b := 2) (by omega) (by omega) (fun h2 => ?_) (fun h2 => ?_)
    · cases hqq : quaTo q unk st n nn with
      | true =>
        refine it_eq (a := 1) (b := 0) (by omega) (by omega) (fun h => absurd h (by omega)) (fun _ => ?_)
        refine hno ?_
        unfold comeS
        rw [if_pos ⟨h2, hqq⟩]
      | false =>
        refine it_eq (a := 0) (b := 0) (by omega) (by omega) (fun _ => ?_) (fun h => absurd rfl h)
        exact main (fun h => by rw [hqq] at h; exact absurd h.2 (by decide))
    · exact main (fun h => h2 h.1)
  · intro k hk hnx
    have hvk := hv k
    have hun := hu n
    have huk := hu k
    refine hJ _ _ _ _ _ (it_le (a := nn) (b := k) (by omega) (by omega) (fun q => absurd q (by omega)) (fun _ => ?_))
    refine p_atR hst (by omega) (by omega) (by decide) ?_
    intro J2 hJ2
    refine it_le (a := st k) (b := 0) (by omega) (by omega) (fun h0 => ?_) (fun h0 => ?_)
    · refine hJ2 _ _ _ _ ?_
      have z : st k = 0 := by omega
      have e1 : cntTo st (k + 1) = cntTo st k := by show cntTo st k + (if st k = 0 then 0 else 1) = _; rw [if_pos z]; rfl
      have e2 : kindTo unk st (k + 1) = kindTo unk st k := by
        conv => lhs; unfold kindTo
        rw [if_pos z]
      have e3 : quaTo q unk st n (k + 1) = quaTo q unk st n k := by
        conv => lhs; unfold quaTo
        simp [z]
      simp only [e1, e2, e3] at hnx
      rw [nI_1]
      exact hnx
    · refine p_atR hpu (by omega) hk (by decide) ?_
      intro J3 hJ3
      have z : ¬ st k = 0 := by omega
      have e1 : cntTo st (k + 1) = cntTo st k + 1 := by show cntTo st k + (if st k = 0 then 0 else 1) = _; rw [if_neg z]
      have main : ∀ b, b < 2 → b = bI (decide (q ≤ (unk n - unk k) + (unk k - unk n))) → J3 (nI b) := by
        intro b hb eb
        refine hJ3 _ ?_
        intro x hx J4 hJ4
        have ex : x = nI (bI (quaTo q unk st n (k + 1))) := by
          rw [hx, or_b _ (by unfold bI; split <;> omega) _ hb, eb]
          congr 1
          conv => rhs; unfold quaTo
          have : decide (0 < st k) = true := by simp; omega
          rw [this]
          cases quaTo q unk st n k <;> cases decide (q ≤ (unk n - unk k) + (unk k - unk n)) <;> simp [bI]
        cases hkk : kindTo unk st k with
        | none =>
          have e2 : kindTo unk st (k + 1) = some k := by
            conv => lhs; unfold kindTo
            rw [if_neg z, hkk]
          rw [if_pos (show zI none < 0 by decide)]
          refine hJ4 ?_
          simp only [e1, e2] at hnx
          rw [ex, nI_1]
          refine hJ2 _ _ _ _ ?_
          rw [nI_1]
          exact hnx
        | some f =>
          have hf8 := kindTo_lt unk st k f hkk
          have huf := hu f
          rw [if_neg (show ¬ zI (some f) < 0 from nI_pos (by omega))]
          refine it_lt (a := unk f) (b := unk k) (by omega) (by omega) (fun h2 => ?_) (fun h2 => ?_)
          · have e2 : kindTo unk st (k + 1) = some f := by
              conv => lhs; unfold kindTo
              rw [if_neg z, hkk]
              exact if_neg (by omega)
            simp only [e1, e2] at hnx
            rw [ex, nI_1]
            refine hJ2 _ _ _ _ ?_
            rw [nI_1]
            exact hnx
          · have e2 : kindTo unk st (k + 1) = some k := by
              conv => lhs; unfold kindTo
              rw [if_neg z, hkk]
              exact if_pos (by omega)
            refine hJ4 ?_
            simp only [e1, e2] at hnx
            rw [ex, nI_1]
            refine hJ2 _ _ _ _ ?_
            rw [nI_1]
            exact hnx
      rw [abs21 _ hun _ huk]
      refine it_lt (a := (unk n - unk k) + (unk k - unk n)) (b := q) (by omega) (by omega) (fun h2 => ?_) (fun h2 => ?_)
      · exact main 0 (by omega) (by unfold bI; rw [decide_eq_false (by omega)]; rfl)
      · exact main 1 (by omega) (by unfold bI; rw [decide_eq_true (by omega)]; rfl)
