/-! pure: the reference's day -/
theorem p_isHungry {s told : Nat → Int32} {P : aP} {w : aW} {st : aT} {d l : Int32} {p : Nat} {K : Int32 → Prop} (hP : PV P) (hT : rT P told) (hp : p < 6) (hv : V (st p)) (h : rS s w st d l) (hk : K (nI (bI (decide (Pfood P p < sumL (st p) (Peat P) 8))))) : wpX9_isHungry told s (nI p) K := by
  obtain ⟨hnp, hnn, hq, hkd, hbd, hfd, hu, he⟩ := hP
  obtain ⟨t0, t1, t2, t3, t9, t15, t21, t29⟩ := hT
  unfold wpX9_isHungry
  refine p_sumOf (c := 29) (row := Peat P) (by omega) t29 hp hv h ?_
  rw [a15, nI_clamp (by omega), t15 p hp]
  have hsm : sumL (st p) (Peat P) 8 ≤ 8 * 10 := sumL_le (fun k => by have := he k; omega) 8
  have hf := hfd p
  refine ⟨vl _ _ (by omega) (by omega), it_le (by omega) (by omega) (fun q => ?_) (fun q => ?_)⟩
  · rw [decide_eq_false (by omega)] at hk; exact hk
  · rw [decide_eq_true (by omega)] at hk; exact hk
theorem stoTo_z {st : Nat → Nat} {nn : Nat} (hz : Z nn st) (hnn : nn ≤ 8) (h1 : 1 ≤ nn) : stoTo st 8 = stoTo st nn := by
  have h : ∀ b, nn ≤ b → stoTo st b = stoTo st nn := by
    intro b
    induction b with
    | zero => intro h; rw [show nn = 0 by omega]
    | succ b ih =>
      intro h
      rcases Nat.lt_or_ge b nn with q | q
      · rw [show nn = b + 1 by omega]
      · conv => lhs; unfold stoTo
        rw [if_pos (by rw [hz b q]; omega)]
        exact ih q
  exact h 8 hnn
theorem p_eats {s told : Nat → Int32} {P : aP} {w : aW} {st : aT} {d l : Int32} {p : Nat} {K : (Nat → Int32) → Prop} (hP : PV P) (h1n : 1 ≤ Pnn P) (hT : rT P told) (hp : p < 6) (hv : V (st p)) (hz : Z (Pnn P) (st p)) (h : rS s w st d l) (hk : ∀ s', rS s' w (uT st p (eatS (Pfood P p) (Peat P) (st p))) d l → K s') : wpX9_eats told s (nI p) K := by
  unfold wpX9_eats
  refine p_isHungry hP hT hp hv h ?_
  obtain ⟨hnp, hnn, hq, hkd, hbd, hfd, hu, he⟩ := hP
  obtain ⟨t0, t1, t2, t3, t9, t15, t21, t29⟩ := hT
  by_cases hh : Pfood P p < sumL (st p) (Peat P) 8
  · rw [decide_eq_true hh]
    show if (1 : Int32) = 0 then _ else _
    rw [if_neg (by decide)]
    have e : eatS (Pfood P p) (Peat P) (st p) = thinS (st p) := by unfold eatS; rw [if_pos hh]
    rw [e] at hk
    intro J hJ
    suffices key : J (nI (stoTo (st p) 1)) (nI 1) by
      rw [show stoTo (st p) 1 = 0 by simp [stoTo]] at key
      exact key
    refine kloopA (J := fun k => J (nI (stoTo (st p) k)) (nI k)) 1 (Pnn P) h1n ?_ ?_
    · have h8 := stoTo_lt (st p) (Pnn P) (by omega)
      refine hJ _ _ ⟨vl 1 _ (by omega) (by omega), ?_⟩
      rw [k1, t1]
      refine it_le (by omega) (by omega) (fun _ => ?_) (fun q => absurd q (by omega))
      refine p_thins (b := 1) hp (by omega) (by omega) hv h ?_
      unfold thinS at hk
      rw [stoTo_z hz hnn h1n] at hk
      exact hk
    · intro k hk1 hkn hnx
      have hlt := stoTo_lt (st p) k hk1
      have b1 := hv k
      have b2 := hv (stoTo (st p) k)
      refine hJ _ _ ⟨vl 1 _ (by omega) (by omega), ?_⟩
      rw [k1, t1]
      refine it_le (by omega) (by omega) (fun q => absurd q (by omega)) (fun _ => ?_)
      rw [m8, nI_add, nI_add, nI_clamp (by omega), nI_clamp (by omega), h.1 p hp k (by omega), h.1 p hp _ (by omega)]
      refine ⟨vl _ _ (by omega) (by omega), vl _ _ (by omega) (by omega), ?_⟩
      intro J1 hJ1
      refine it_le (by omega) (by omega) (fun q => ?_) (fun q => ?_)
      · refine hJ1 _ ?_
        have e : stoTo (st p) (k + 1) = stoTo (st p) k := by
          show (if st p k ≤ st p (stoTo (st p) k) then stoTo (st p) k else k) = _
          rw [if_pos q]
        rw [nI_1, ← e]
        exact hnx
      · refine hJ1 _ ?_
        have e : stoTo (st p) (k + 1) = k := by
          show (if st p k ≤ st p (stoTo (st p) k) then stoTo (st p) k else k) = _
          rw [if_neg (by omega)]
        rw [e] at hnx
        rw [nI_1]
        exact hnx
  · rw [decide_eq_false hh]
    show if (0 : Int32) = 0 then _ else _
    rw [if_pos rfl]
    refine hk _ ?_
    unfold eatS
    rw [if_neg hh, uT_id]
    exact h
/-- who is first without a bed: the reference's number of it -/
def woS (wo : Int32) (p b : Nat) : Int32 := if wo = -4 then (if b = 0 then -4 else nI (10 * p + (if b % 2 = 1 then 0 else if b / 2 % 2 = 1 then 1 else if b / 4 % 2 = 1 then 2 else if b / 8 % 2 = 1 then 3 else if b / 16 % 2 = 1 then 4 else if b / 32 % 2 = 1 then 5 else if b / 64 % 2 = 1 then 6 else 7))) else wo
theorem wo_step : ∀ p, p < 6 → ∀ n, n < 8 → ∀ b, b < 2 ^ n → (if woS (-4) p b = -4 then nI (10 * p + n) else woS (-4) p b) = woS (-4) p (b + 2 ^ n) := by decide +kernel
theorem wo_stepO {wo : Int32} (h : ¬ wo = -4) (p n b : Nat) : (if woS wo p b = -4 then nI (10 * p + n) else woS wo p b) = woS wo p (b + 2 ^ n) := by
  unfold woS
  rw [if_neg h, if_neg h, if_neg h]
theorem wo_all (wo : Int32) {p n b : Nat} (hp : p < 6) (hn : n < 8) (hb : b < 2 ^ n) : (if woS wo p b = -4 then nI (10 * p + n) else woS wo p b) = woS wo p (b + 2 ^ n) := by
  by_cases h : wo = -4
  · subst h; exact wo_step p hp n hn b hb
  · exact wo_stepO h p n b
theorem pop_step : ∀ n, n < 8 → ∀ b, b < 2 ^ n → pop8 (b + 2 ^ n) = pop8 b + 1 := by decide +kernel
theorem p_comes {s told : Nat → Int32} {P : aP} {w : aW} {st : aT} {d l wo : Int32} {p n c : Nat} {K : Int32 → (Nat → Int32) → Prop} (hP : PV P) (hT : rT P told) (hp : p < 6) (hn : n < Pnn P) (hc : c < 7) (hv : V (st p)) (hz : Z (Pnn P) (st p)) (h0 : st p n = 0) (h : rS s w st d l)
    (hyes : ∀ st', comeS (Pnn P) (Pkind P p) (Pbed P p) (Pq P) (Punk P) (st p) n c = some st' → ∀ s', rS s' w (uT st p st') d l → K wo s')
    (hno : comeS (Pnn P) (Pkind P p) (Pbed P p) (Pq P) (Punk P) (st p) n c = none → ∀ s', rS s' w st d (l + 1) → K (if wo = -4 then nI (10 * p + n) else wo) s') : wpX9_comes wo told s (nI p) (nI n) (nI c) K := by
  have hP0 := hP
  have hT0 := hT
  obtain ⟨hnp, hnn, hq, hkd, hbd, hfd, hu, he⟩ := hP
  obtain ⟨t0, t1, t2, t3, t9, t15, t21, t29⟩ := hT
  have hkp := hkd p
  unfold wpX9_comes
  intro J hJ
  suffices key : J (nI (bI (!(decide (Pkind P p = 2) && quaTo (Pq P) (Punk P) (st p) n 0)))) (nI 0) by
    rw [show (!(decide (Pkind P p = 2) && quaTo (Pq P) (Punk P) (st p) n 0)) = true by simp [quaTo]] at key
    exact key
  refine kloop (J := fun k => J (nI (bI (!(decide (Pkind P p = 2) && quaTo (Pq P) (Punk P) (st p) n k)))) (nI k)) (N := Pnn P) ?_ ?_
  · refine hJ _ _ ⟨vl 1 _ (by omega) (by omega), ?_⟩
    rw [k1, t1]
    refine it_le (by omega) (by omega) (fun _ => ?_) (fun q => absurd q (by omega))
    refine p_kindest hP0 hT0 hp hv h ?_
    intro J1 hJ1
    have hmay : ∀ b, (decide (Pkind P p = 2) && quaTo (Pq P) (Punk P) (st p) n (Pnn P)) = b → (b = true ↔ (Pkind P p = 2 ∧ quaTo (Pq P) (Punk P) (st p) n (Pnn P) = true)) := by
      intro b hb
      rw [← hb]
      simp
    have lostC : comeS (Pnn P) (Pkind P p) (Pbed P p) (Pq P) (Punk P) (st p) n c = none → (vp_in 85 86 ∧ (vp_in 85 86 ∧ (∀ J213 : Int32 → Prop, (∀ (v_4 : Int32), K v_4 (upd s (Int32.toNatClampNeg 85) ((s (Int32.toNatClampNeg 85)) + 1)) → J213 v_4) → (if wo = (-4) then J213 ((10 * nI p) + nI n) else J213 wo)))) := by
      intro hcn
      refine ⟨vl 85 _ (by omega) (by omega), vl 85 _ (by omega) (by omega), ?_⟩
      intro J3 hJ3
      rw [k85, h.2.2.2] at hJ3
      have hno' := hno hcn _ (h.lost (l + 1))
      by_cases hwo : wo = -4
      · rw [if_pos hwo]
        rw [if_pos hwo] at hno'
        refine hJ3 _ ?_
        rw [m10, nI_add]
        exact hno'
      · rw [if_neg hwo]
        rw [if_neg hwo] at hno'
        exact hJ3 _ hno'
    generalize hbb : (decide (Pkind P p = 2) && quaTo (Pq P) (Punk P) (st p) n (Pnn P)) = b
    have hb2 := hmay b hbb
    cases b with
    | true =>
      have hcn : comeS (Pnn P) (Pkind P p) (Pbed P p) (Pq P) (Punk P) (st p) n c = none := by
        unfold comeS
        rw [if_pos (hb2.mp rfl)]
      show if (0 : Int32) = 0 then J1 else _
      rw [if_pos rfl]
      refine hJ1 ?_
      intro J2 hJ2
      rw [hbb]
      show if (0 : Int32) = 0 then J2 else _
      rw [if_pos rfl]
      exact hJ2 (lostC hcn)
    | false =>
      have hnm : ¬ (Pkind P p = 2 ∧ quaTo (Pq P) (Punk P) (st p) n (Pnn P) = true) := fun z => Bool.noConfusion (hb2.mpr z)
      show if (1 : Int32) = 0 then J1 else _
      rw [if_neg (by decide)]
      refine p_lodgers9 hp hv h ?_
      refine p_ones (bsum_lt _ 8) ?_
      rw [cnt_lod, cntTo_ext hz hnn, a9, nI_clamp (by omega), t9 p hp]
      refine ⟨vl _ _ (by omega) (by omega), ?_⟩
      have hcl := cntTo_le (st p) (Pnn P)
      have hbp := hbd p
      refine it_le (by omega) (by omega) (fun q => ?_) (fun q => ?_)
      · refine hJ1 ?_
        intro J2 hJ2
        rw [hbb, if_neg (show ¬ (nI (bI !false)) = 0 by decide)]
        cases hkk : kindTo (Punk P) (st p) (Pnn P) with
        | none =>
          rw [if_pos (show zI none < 0 by decide)]
          refine hJ2 (lostC ?_)
          unfold comeS
          rw [if_neg hnm, if_neg (by omega), hkk]
        | some f =>
          have hf8 := kindTo_lt _ _ _ f hkk
          have huf := hu f
          have hun := hu n
          rw [if_neg (show ¬ zI (some f) < 0 from nI_pos (by omega))]
          rw [show zI (some f) = nI f from rfl]
          rw [a21, a21, nI_clamp (by omega), nI_clamp (by omega), t21 n (by omega), t21 f (by omega)]
          refine ⟨vl _ _ (by omega) (by omega), vl _ _ (by omega) (by omega), ?_⟩
          refine it_le (by omega) (by omega) (fun q2 => ?_) (fun q2 => ?_)
          · refine hJ2 (lostC ?_)
            unfold comeS
            rw [if_neg hnm, if_neg (by omega), hkk]
            exact if_neg (by omega)
          · have hcs : comeS (Pnn P) (Pkind P p) (Pbed P p) (Pq P) (Punk P) (st p) n c = some (uA (uA (st p) f 0) n c) := by
              unfold comeS
              rw [if_neg hnm, if_neg (by omega), hkk]
              exact if_pos (by omega)
            show vp_in (8 * nI p + nI f) 86 ∧ vp_in (8 * nI p + nI n) 86 ∧ K wo (upd (upd s (Int32.toNatClampNeg (8 * nI p + nI f)) 0) (Int32.toNatClampNeg (8 * nI p + nI n)) (nI c))
            rw [m8, nI_add, nI_add, nI_clamp (by omega), nI_clamp (by omega)]
            refine ⟨vl _ _ (by omega) (by omega), vl _ _ (by omega) (by omega), ?_⟩
            have r1 := h.put hp (show f < 8 by omega) 0
            have r2 := r1.put hp (show n < 8 by omega) c
            rw [uT_s, uT_uT] at r2
            exact hyes _ hcs _ r2
      · have hcs : comeS (Pnn P) (Pkind P p) (Pbed P p) (Pq P) (Punk P) (st p) n c = some (uA (st p) n c) := by
          unfold comeS
          rw [if_neg hnm, if_pos (by omega)]
        rw [m8, nI_add, nI_clamp (by omega)]
        refine ⟨vl _ _ (by omega) (by omega), ?_⟩
        exact hyes _ hcs _ (h.put hp (by omega) c)
  · intro k hkn hnx
    have hvk := hv k
    refine hJ _ _ ⟨vl 1 _ (by omega) (by omega), ?_⟩
    rw [k1, t1]
    refine it_le (by omega) (by omega) (fun q => absurd q (by omega)) (fun _ => ?_)
    intro J1 hJ1 J2 hJ2
    have eq1 : quaTo (Pq P) (Punk P) (st p) n (k + 1) = (quaTo (Pq P) (Punk P) (st p) n k || (decide (0 < st p k) && decide (Pq P ≤ (Punk P n - Punk P k) + (Punk P k - Punk P n)))) := rfl
    have fin : ∀ b : Bool, b = (!(decide (Pkind P p = 2) && quaTo (Pq P) (Punk P) (st p) n (k + 1))) → J1 (nI (bI b)) := by
      intro b hb
      refine hJ1 _ ?_
      rw [nI_1, hb]
      exact hnx
    by_cases hk2 : Pkind P p = 2
    · cases hqq : quaTo (Pq P) (Punk P) (st p) n k with
      | true =>
        have e : (nI (bI (!(decide (Pkind P p = 2) && true)))) = 0 := by rw [decide_eq_true hk2]; rfl
        rw [e, if_pos rfl]
        exact hJ2 (fin false (by rw [eq1, hqq, decide_eq_true hk2]; rfl))
      | false =>
        have e : (nI (bI (!(decide (Pkind P p = 2) && false)))) = 1 := by rw [decide_eq_true hk2]; rfl
        rw [e, if_neg (by decide), a3, nI_clamp (by omega), t3 p hp]
        refine ⟨vl _ _ (by omega) (by omega), ?_⟩
        intro J3 hJ3
        refine it_eq (b := 2) (by omega) (by omega) (fun _ => ?_) (fun z => absurd hk2 z)
        rw [m8, nI_add, nI_clamp (by omega), h.1 p hp k (by omega)]
        refine ⟨vl _ _ (by omega) (by omega), ?_⟩
        refine it_eq (b := 0) (by omega) (by omega) (fun q => ?_) (fun q => ?_)
        · exact hJ3 (fin true (by rw [eq1, hqq, q]; simp))
        · have hne : n ≠ k := fun z => q (by rw [← z]; exact h0)
          refine p_quarrels hP0 hT0 (by omega) (by omega) ?_
          rw [decide_eq_true hne, Bool.true_and]
          cases hd : decide (Pq P ≤ (Punk P n - Punk P k) + (Punk P k - Punk P n)) with
          | true =>
            show if (1 : Int32) = 0 then _ else _
            rw [if_neg (by decide)]
            exact hJ2 (fin false (by rw [eq1, hqq, hd, decide_eq_true hk2, decide_eq_true (show 0 < st p k by omega)]; rfl))
          | false =>
            show if (0 : Int32) = 0 then _ else _
            rw [if_pos rfl]
            exact hJ3 (fin true (by rw [eq1, hqq, hd]; simp))
    · have e : (nI (bI (!(decide (Pkind P p = 2) && quaTo (Pq P) (Punk P) (st p) n k)))) = 1 := by rw [decide_eq_false hk2]; rfl
      rw [e, if_neg (by decide), a3, nI_clamp (by omega), t3 p hp]
      refine ⟨vl _ _ (by omega) (by omega), ?_⟩
      intro J3 hJ3
      refine it_eq (b := 2) (by omega) (by omega) (fun z => absurd z hk2) (fun _ => ?_)
      exact hJ3 (fin true (by rw [decide_eq_false hk2]; rfl))
