/-! pure: the reference's day, all of it -/
theorem lv_th2 : ∀ s, s < 10 → ∀ t, t < 3 → 1 ≤ s → True := fun _ _ _ _ _ => trivial
theorem p_goesBy {s told : Nat → Int32} {P : aP} {w : aW} {st : aT} {d l wo : Int32} {p : Nat} {K : Int32 → (Nat → Int32) → Prop} (hP : PV P) (h1n : 1 ≤ Pnn P) (hT : rT P told) (hp : p < 6) (hw : ∀ n i, Pnp P ≤ i → w i p n = false) (hv : V (st p)) (hz : Z (Pnn P) (st p)) (hc4 : Pkind P p = 4 → ∀ n, st p n = 0) (h : rS s w st d l)
    (hk : ∀ s', rS s' w (uT st p (dayS (Pnn P) (Pkind P p) (Pbed P p) (Pfood P p) (Pq P) (Punk P) (Peat P) (cw w p) (st p)).1) d (l + nI (pop8 (dayS (Pnn P) (Pkind P p) (Pbed P p) (Pfood P p) (Pq P) (Punk P) (Peat P) (cw w p) (st p)).2)) → K (woS wo p (dayS (Pnn P) (Pkind P p) (Pbed P p) (Pfood P p) (Pq P) (Punk P) (Peat P) (cw w p) (st p)).2) s') : wpX9_goesBy wo told s (nI p) K := by
  have hP0 := hP
  have hT0 := hT
  obtain ⟨hnp, hnn, hq, hkd, hbd, hfd, hu, he⟩ := hP
  obtain ⟨t0, t1, t2, t3, t9, t15, t21, t29⟩ := hT
  have hkp := hkd p
  have wo0 : woS wo p 0 = wo := by
    unfold woS
    by_cases h : wo = -4
    · rw [if_pos h, if_pos rfl, h]
    · rw [if_neg h]
  unfold wpX9_goesBy
  intro J hJ
  by_cases h4 : Pkind P p = 4
  · have ed : dayS (Pnn P) (Pkind P p) (Pbed P p) (Pfood P p) (Pq P) (Punk P) (Peat P) (cw w p) (st p) = (st p, 0) := by unfold dayS; rw [if_pos h4]
    rw [ed] at hk
    have hs0 : ∀ k, sumL (st p) (Peat P) k = 0 := by
      intro k
      induction k with
      | zero => rfl
      | succ k ih => show sumL (st p) (Peat P) k + (if st p k = 0 then 0 else Peat P k) = 0; rw [if_pos (hc4 h4 k), ih]
    refine hJ _ _ _ ⟨vl 1 _ (by omega) (by omega), ?_⟩
    intro J1 hJ1
    have fin : J1 := by
      refine hJ1 ?_
      refine p_eats hP0 h1n hT0 hp hv hz h ?_
      intro s' hs'
      have ee : eatS (Pfood P p) (Peat P) (st p) = st p := by unfold eatS; rw [hs0, if_neg (by omega)]
      rw [ee] at hs'
      have := hk s' (by
        show rS s' w (uT st p (st p)) d (l + nI (pop8 0))
        rw [show pop8 0 = 0 from by decide, show l + nI 0 = l from by rw [show nI 0 = (0 : Int32) from rfl]; simp]
        exact hs')
      rw [show (st p, 0).2 = 0 from rfl, wo0] at this
      exact this
    rw [k1, t1]
    refine it_le (b := 0) (by omega) (by omega) (fun q => absurd q (by omega)) (fun _ => ?_)
    rw [a3, nI_clamp (by omega), t3 p hp]
    refine ⟨vl _ _ (by omega) (by omega), ?_⟩
    exact it_eq (b := 4) (by omega) (by omega) (fun _ => fin) (fun z => absurd h4 z)
  · have ed : dayS (Pnn P) (Pkind P p) (Pbed P p) (Pfood P p) (Pq P) (Punk P) (Peat P) (cw w p) (st p) = (eatS (Pfood P p) (Peat P) (dayTo (Pnn P) (Pkind P p) (Pbed P p) (Pq P) (Punk P) (cw w p) (st p) (Pnn P)).1, (dayTo (Pnn P) (Pkind P p) (Pbed P p) (Pq P) (Punk P) (cw w p) (st p) (Pnn P)).2) := by unfold dayS; rw [if_neg h4]
    rw [ed] at hk
    let D := fun k => dayTo (Pnn P) (Pkind P p) (Pbed P p) (Pq P) (Punk P) (cw w p) (st p) k
    have hD : ∀ k, dayTo (Pnn P) (Pkind P p) (Pbed P p) (Pq P) (Punk P) (cw w p) (st p) k = D k := fun _ => rfl
    suffices key : ∀ s', rS s' w (uT st p (D 0).1) d (l + nI (pop8 (D 0).2)) → J (nI 0) (woS wo p (D 0).2) s' by
      have := key s (by
        show rS s w (uT st p (st p)) d (l + nI (pop8 0))
        rw [show pop8 0 = 0 from by decide, show l + nI 0 = l from by rw [show nI 0 = (0 : Int32) from rfl]; simp, uT_id]
        exact h)
      rw [show (D 0).2 = 0 from rfl, wo0] at this
      exact this
    refine kloop (J := fun k => ∀ s', rS s' w (uT st p (D k).1) d (l + nI (pop8 (D k).2)) → J (nI k) (woS wo p (D k).2) s') (N := Pnn P) ?_ ?_
    · intro s' hs'
      have hv' : V (D (Pnn P)).1 := hv.dayTo (cw_lt w p) (Pnn P)
      have hz' : Z (Pnn P) (D (Pnn P)).1 := hz.dayTo (Pnn P) (Nat.le_refl _)
      refine hJ _ _ _ ⟨vl 1 _ (by omega) (by omega), ?_⟩
      intro J1 hJ1
      rw [k1, t1]
      refine it_le (by omega) (by omega) (fun _ => ?_) (fun q => absurd q (by omega))
      refine hJ1 ?_
      refine p_eats hP0 h1n hT0 hp (by rw [uT_s]; exact hv') (by rw [uT_s]; exact hz') hs' ?_
      intro s2 hs2
      rw [uT_s, uT_uT] at hs2
      exact hk s2 hs2
    · intro k hkn hnx s' hs'
      have hv' : V (D k).1 := hv.dayTo (cw_lt w p) k
      have hz' : Z (Pnn P) (D k).1 := hz.dayTo k (by omega)
      have hb : (D k).2 < 2 ^ k := dayTo_b k
      have hc := cw_lt w p k
      have hvk := hv' k
      have en : D (k + 1) = if (D k).1 k = 0 then (if cw w p k = 0 then D k else match comeS (Pnn P) (Pkind P p) (Pbed P p) (Pq P) (Punk P) (D k).1 k (cw w p k) with
          | some st' => (st', (D k).2)
          | none => ((D k).1, (D k).2 + 2 ^ k)) else (uA (D k).1 k (lvS (Pkind P p) ((D k).1 k) (cw w p k)), (D k).2) := rfl
      rw [en] at hnx
      generalize hd : D k = r at hs' hv' hz' hb hvk hnx
      refine hJ _ _ _ ⟨vl 1 _ (by omega) (by omega), ?_⟩
      intro J1 hJ1
      rw [k1, t1]
      refine it_le (by omega) (by omega) (fun q => absurd q (by omega)) (fun _ => ?_)
      rw [a3, nI_clamp (by omega), t3 p hp]
      refine ⟨vl _ _ (by omega) (by omega), ?_⟩
      refine it_eq (b := 4) (by omega) (by omega) (fun z => absurd z h4) (fun _ => ?_)
      refine p_saidBy hP0 hT0 hp (by omega) (fun i hi => hw k i hi) hs' ?_
      intro x hx
      rw [m8, nI_add] at hx
      subst hx
      have hsk : s' (8 * p + k) = nI (r.1 k) := by
        have := hs'.1 p hp k (by omega)
        rw [uT_s] at this
        exact this
      rw [nI_clamp (by omega), hsk]
      refine ⟨vl _ _ (by omega) (by omega), ?_⟩
      intro J2 hJ2 J3 hJ3
      have hs2 := hs'
      have thin : J3 → True := fun _ => trivial
      refine it_le (b := 0) (by omega) (by omega) (fun q => ?_) (fun q => ?_)
      · refine hJ3 ⟨vl _ _ (by omega) (by omega), ?_⟩
        refine it_le (b := 0) (by omega) (by omega) (fun _ => ?_) (fun q => absurd q (by omega))
        rw [if_pos (show r.1 k = 0 by omega)] at hnx
        refine it_le (b := 0) (by omega) (by omega) (fun q2 => ?_) (fun q2 => ?_)
        · rw [if_pos (show cw w p k = 0 by omega)] at hnx
          refine hJ2 _ _ ?_
          rw [nI_1]
          exact hnx s' hs'
        · rw [if_neg (show ¬ cw w p k = 0 by omega)] at hnx
          refine p_comes hP0 hT0 hp hkn hc (by rw [uT_s]; exact hv') (by rw [uT_s]; exact hz') (by rw [uT_s]; omega) hs' ?_ ?_
          · intro st' hst s3 hs3
            rw [uT_s] at hst
            rw [hst] at hnx
            rw [uT_uT] at hs3
            refine hJ2 _ _ ?_
            rw [nI_1]
            exact hnx s3 hs3
          · intro hst s3 hs3
            rw [uT_s] at hst
            rw [hst] at hnx
            refine hJ2 _ _ ?_
            rw [nI_1, wo_all wo hp (by omega) hb]
            refine hnx s3 ?_
            show rS s3 w (uT st p r.1) d (l + nI (pop8 (r.2 + 2 ^ k)))
            rw [pop_step k (by omega) _ hb, nI_succ, ← Int32.add_assoc]
            exact hs3
      · rw [if_neg (show ¬ r.1 k = 0 by omega)] at hnx
        refine it_le (b := 0) (by omega) (by omega) (fun q2 => ?_) (fun q2 => ?_)
        · refine hJ3 ⟨vl _ _ (by omega) (by omega), ?_⟩
          refine it_le (b := 0) (by omega) (by omega) (fun q => absurd q (by omega)) (fun _ => ?_)
          refine ⟨vl _ _ (by omega) (by omega), ?_⟩
          intro J4 hJ4
          have main : ∀ t, t < 3 → t = (if Pkind P p = 3 then 2 else 1) → J4 (nI t) := by
            intro t ht et
            refine hJ4 _ ?_
            refine p_thins (b := t) hp (by omega) (by omega) (by rw [uT_s]; exact hv') hs' ?_
            intro s3 hs3
            rw [uT_s, uT_uT] at hs3
            refine hJ2 _ _ ?_
            rw [nI_1]
            refine hnx s3 ?_
            have e : lvS (Pkind P p) (r.1 k) (cw w p k) = r.1 k - t := by
              unfold lvS
              rw [if_pos (by omega), et]
            show rS s3 w (uT st p (uA r.1 k (lvS (Pkind P p) (r.1 k) (cw w p k)))) d (l + nI (pop8 r.2))
            rw [e]
            exact hs3
          refine it_eq (b := 3) (by omega) (by omega) (fun z => ?_) (fun z => ?_)
          · exact main 2 (by omega) (by rw [if_pos z])
          · exact main 1 (by omega) (by rw [if_neg z])
        · refine ⟨vl _ _ (by omega) (by omega), ?_⟩
          intro J4 hJ4
          have fin : ∀ v, v = lvS (Pkind P p) (r.1 k) (cw w p k) → J4 (nI v) := by
            intro v hv9
            refine hJ4 _ ⟨vl _ _ (by omega) (by omega), ?_⟩
            refine hJ2 _ _ ?_
            rw [nI_1]
            refine hnx _ ?_
            have := hs'.put hp (show k < 8 by omega) v
            rw [uT_s, uT_uT, hv9] at this
            rw [hv9]
            exact this
          rw [nI_add]
          refine it_le (b := 9) (by omega) (by omega) (fun q3 => ?_) (fun q3 => ?_)
          · refine ⟨vl _ _ (by omega) (by omega), ?_⟩
            refine fin _ ?_
            unfold lvS
            rw [if_neg (by omega)]
            split <;> omega
          · refine fin 9 ?_
            unfold lvS
            rw [if_neg (by omega), if_neg (by omega)]
