/-! pure: person, load, whose, sums -/
theorem rx_none {lo hi : Nat} {x : Int32} (hb : hi < 2 ^ 31) (h : rx lo hi x = none) {j : Nat} (h1 : lo ≤ j) (h2 : j ≤ hi) : x ≠ nI j := by
  intro e
  unfold rx at h
  rw [if_pos (by rw [e, nI_toInt (by omega)]; omega)] at h
  cases h
theorem p_hlodgers {st : Nat → Nat} {hs : Nat → Int32} {K : Int32 → Prop} (hv : V st) (hst : Rp 8 hs st) (hk : K (nI (lodB st))) : wpX0_lodgers hs K := by
  unfold wpX0_lodgers
  intro J hJ
  refine kloop (J := fun k => J (nI (bsum (fun n => decide (0 < st n)) k)) (nI k)) (N := 8) ?_ ?_
  · exact hJ _ _ (it_le (a := 8) (b := 8) (by omega) (by omega) (fun _ => hk) (fun q => absurd q (by omega)))
  · intro k hk8 hnx
    have hvk := hv k
    refine hJ _ _ (it_le (a := 8) (b := k) (by omega) (by omega) (fun q => absurd q (by omega)) (fun _ => ?_))
    refine p_atR hst hk8 hk8 (by decide) ?_
    intro J1 hJ1
    have e : bsum (fun n => decide (0 < st n)) (k + 1) = bsum (fun n => decide (0 < st n)) k + (if decide (0 < st k) = true then 2 ^ k else 0) := rfl
    refine it_le (a := st k) (b := 0) (by omega) (by omega) (fun q => ?_) (fun q => ?_)
    · refine hJ1 _ ?_
      rw [if_neg (by simp; omega)] at e
      rw [nI_1]
      rw [e.trans (Nat.add_zero _)] at hnx
      exact hnx
    · intro x hx
      refine hJ1 _ ?_
      rw [if_pos (by simp; omega)] at e
      rw [hx, or_k k hk8 _ (bsum_lt _ k), nI_1, ← e]
      exact hnx
def aPerson (P : aP) (st : aT) (x y : Int32) : Int32 := match iP P x, rx 0 4 y with
  | some p, some k => if k = 0 then nI (Pkind P p) else if k = 1 then nI (Pbed P p) else if k = 2 then nI (Pfood P p) else if k = 3 then nI (lodB (st p)) else nI (bI (decide (Pfood P p < sumL (st p) (Peat P) 8)))
  | _, _ => -1
theorem c_person {P : aP} {w : aW} {st : aT} {np nn q hk hb hf : Int32} {hw : Int64} {hs kinds beds foods pu pe f : Nat → Int32} {rows : Nat → Int64} {x y : Int32} {K : Int32 → Int32 → Int32 → Int32 → Int64 → (Nat → Int32) → Prop} (hP : PV1 P) (hR : rPt P np nn q kinds beds foods pu pe) (hwr : rW rows w) (h : rD f st) (hv : ∀ p, V (st p)) (hz : ∀ p, Z (Pnn P) (st p))
    (hK : ∀ a b c e g, K (aPerson P st x y) a b c e g) : wpX8_person np kinds beds foods pe rows f hk hb hf hw hs x y K := by
  have hnn := hP.1.2.1
  have hkd := hP.1.2.2.2.1
  have hbd := hP.1.2.2.2.2.1
  have hfd := hP.1.2.2.2.2.2.1
  have he := hP.1.2.2.2.2.2.2.2
  unfold wpX8_person
  rw [hR.1]
  refine p_isPerson hP (fun p e1 => i1 (p_within (lo := 0) (hi := 4) (by omega) (by omega) (fun k e2 => i1 ?_) (fun e2 => i0 ?_))) (fun e1 => i0 ?_)
  · have h1 := rx_some e1
    have h2 := rx_some e2
    have hnp := hP.2.1
    unfold aPerson at hK
    rw [e1, e2] at hK
    dsimp only at hK
    rw [h1.2.2]
    refine p_enter hP.1 hR (by omega) hwr h ?_
    intro g hg
    rw [h2.2.2]
    refine it_eq (b := 0) (by omega) (by omega) (fun z => ?_) (fun z0 => ?_)
    · rw [if_pos z] at hK; exact hK _ _ _ _ _
    · rw [if_neg z0] at hK
      refine it_eq (b := 1) (by omega) (by omega) (fun z => ?_) (fun z1 => ?_)
      · rw [if_pos z] at hK; exact hK _ _ _ _ _
      · rw [if_neg z1] at hK
        refine it_eq (b := 2) (by omega) (by omega) (fun z => ?_) (fun z2 => ?_)
        · rw [if_pos z] at hK; exact hK _ _ _ _ _
        · rw [if_neg z2] at hK
          refine it_eq (b := 3) (by omega) (by omega) (fun z => ?_) (fun z3 => ?_)
          · rw [if_pos z] at hK; exact p_hlodgers (hv p) hg (hK _ _ _ _ _)
          · rw [if_neg z3] at hK
            refine p_together (row := Peat P) (hv p) hg (fun n hn h0 => hR.2.2.2.2.2.2.2 n (by
              rcases Nat.lt_or_ge n (Pnn P) with z | z
              · exact z
              · exact absurd (hz p n z) h0)) ?_
            have hsm : sumL (st p) (Peat P) 8 ≤ 8 * 10 := sumL_le (fun k => by have := he k; omega) 8
            have hfp := hfd p
            refine it_le (by omega) (by omega) (fun z => ?_) (fun z => ?_)
            · rw [decide_eq_false (by omega)] at hK; exact hK _ _ _ _ _
            · rw [decide_eq_true (by omega)] at hK; exact hK _ _ _ _ _
  · unfold aPerson at hK
    rw [e1, e2] at hK; exact hK _ _ _ _ _
  · unfold aPerson at hK
    rw [e1] at hK; exact hK _ _ _ _ _
theorem r_person {P : aP} {told s : Nat → Int32} {w : aW} {st : aT} {d l : Int32} {x y : Int32} {K : Int32 → Prop} (hP : PV1 P) (hT : rT P told) (h : rS s w st d l) (hv : ∀ p, V (st p)) (hK : K (aPerson P st x y)) : wpX9_person told s x y K := by
  have hnp6 := hP.1.1
  unfold wpX9_person
  refine p_isPerson9 hP hT (fun p e1 => i1 ?_) (fun e1 => i0 ?_)
  · have h1 := rx_some e1
    have hnp := hP.2.1
    unfold aPerson at hK
    rw [e1] at hK
    rw [h1.2.2]
    cases e2 : rx 0 4 y with
    | none =>
      rw [e2] at hK
      have nn := fun j hj => rx_none (by omega) e2 (Nat.zero_le j) hj
      rw [if_neg (show ¬ y = 0 from nn 0 (by omega)), if_neg (show ¬ y = 1 from nn 1 (by omega)), if_neg (show ¬ y = 2 from nn 2 (by omega)), if_neg (show ¬ y = 3 from nn 3 (by omega)), if_neg (show ¬ y = 4 from nn 4 (by omega))]
      exact hK
    | some k =>
      rw [e2] at hK
      dsimp only at hK
      have h2 := rx_some e2
      rw [h2.2.2, a3, a9, a15, nI_clamp (by omega), nI_clamp (by omega), nI_clamp (by omega), hT.2.2.2.1 p (by omega), hT.2.2.2.2.1 p (by omega), hT.2.2.2.2.2.1 p (by omega)]
      refine it_eq (b := 0) (by omega) (by omega) (fun z => ?_) (fun z0 => ?_)
      · rw [if_pos z] at hK; exact ⟨vl _ _ (by omega) (by omega), hK⟩
      · rw [if_neg z0] at hK
        refine it_eq (b := 1) (by omega) (by omega) (fun z => ?_) (fun z1 => ?_)
        · rw [if_pos z] at hK; exact ⟨vl _ _ (by omega) (by omega), hK⟩
        · rw [if_neg z1] at hK
          refine it_eq (b := 2) (by omega) (by omega) (fun z => ?_) (fun z2 => ?_)
          · rw [if_pos z] at hK; exact ⟨vl _ _ (by omega) (by omega), hK⟩
          · rw [if_neg z2] at hK
            refine it_eq (b := 3) (by omega) (by omega) (fun z => ?_) (fun z3 => ?_)
            · rw [if_pos z] at hK; exact p_lodgers9 (by omega) (hv p) h hK
            · rw [if_neg z3] at hK
              refine it_eq (b := 4) (by omega) (by omega) (fun z => ?_) (fun z => absurd z (by omega))
              refine p_isHungry hP.1 hT (by omega) (hv p) h ?_
              cases hd : decide (Pfood P p < sumL (st p) (Peat P) 8) with
              | true => rw [hd] at hK; exact i1 hK
              | false => rw [hd] at hK; exact i0 hK
  · unfold aPerson at hK
    rw [e1] at hK; exact hK
def aLoad (P : aP) (st : aT) (x y : Int32) : Int32 := match iP P x, rx 0 1 y with
  | some p, some k => if k = 0 then nI (sumL (st p) (Punk P) 8) else nI (sumL (st p) (Peat P) 8)
  | _, _ => -1
theorem c_load {P : aP} {w : aW} {st : aT} {np nn q hk hb hf : Int32} {hw : Int64} {hs kinds beds foods pu pe f : Nat → Int32} {rows : Nat → Int64} {x y : Int32} {K : Int32 → Int32 → Int32 → Int32 → Int64 → (Nat → Int32) → Prop} (hP : PV1 P) (hR : rPt P np nn q kinds beds foods pu pe) (hwr : rW rows w) (h : rD f st) (hv : ∀ p, V (st p)) (hz : ∀ p, Z (Pnn P) (st p))
    (hK : ∀ a b c e g, K (aLoad P st x y) a b c e g) : wpX8_load np kinds beds foods pu pe rows f hk hb hf hw hs x y K := by
  unfold wpX8_load
  rw [hR.1]
  refine p_isPerson hP (fun p e1 => i1 (p_within (lo := 0) (hi := 1) (by omega) (by omega) (fun k e2 => i1 ?_) (fun e2 => i0 ?_))) (fun e1 => i0 ?_)
  · have h1 := rx_some e1
    have h2 := rx_some e2
    have hnp := hP.2.1
    unfold aLoad at hK
    rw [e1, e2] at hK
    dsimp only at hK
    rw [h1.2.2]
    refine p_enter hP.1 hR (by omega) hwr h ?_
    intro g hg
    rw [h2.2.2]
    have lt : ∀ n, n < 8 → st p n ≠ 0 → n < Pnn P := fun n hn h0 => by
      rcases Nat.lt_or_ge n (Pnn P) with z | z
      · exact z
      · exact absurd (hz p n z) h0
    refine it_eq (b := 0) (by omega) (by omega) (fun z => ?_) (fun z => ?_)
    · rw [if_pos z] at hK
      exact p_together (row := Punk P) (hv p) hg (fun n hn h0 => hR.2.2.2.2.2.2.1 n (lt n hn h0)) (hK _ _ _ _ _)
    · rw [if_neg z] at hK
      exact p_together (row := Peat P) (hv p) hg (fun n hn h0 => hR.2.2.2.2.2.2.2 n (lt n hn h0)) (hK _ _ _ _ _)
  · unfold aLoad at hK
    rw [e1, e2] at hK; exact hK _ _ _ _ _
  · unfold aLoad at hK
    rw [e1] at hK; exact hK _ _ _ _ _
theorem r_load {P : aP} {told s : Nat → Int32} {w : aW} {st : aT} {d l : Int32} {x y : Int32} {K : Int32 → Prop} (hP : PV1 P) (hT : rT P told) (h : rS s w st d l) (hv : ∀ p, V (st p)) (hK : K (aLoad P st x y)) : wpX9_load told s x y K := by
  have hnp6 := hP.1.1
  unfold wpX9_load
  refine p_isPerson9 hP hT (fun p e1 => i1 (p_in9 (lo := 0) (hi := 1) (by omega) (by omega) (fun k e2 => i1 ?_) (fun e2 => i0 ?_))) (fun e1 => i0 ?_)
  · have h1 := rx_some e1
    have h2 := rx_some e2
    have hnp := hP.2.1
    unfold aLoad at hK
    rw [e1, e2] at hK
    dsimp only at hK
    rw [h1.2.2, h2.2.2]
    intro J hJ
    refine it_eq (b := 0) (by omega) (by omega) (fun z => hJ _ ?_) (fun z => hJ _ ?_)
    · rw [if_pos z] at hK
      exact p_sumOf (c := 21) (row := Punk P) (by omega) hT.2.2.2.2.2.2.1 (by omega) (hv p) h hK
    · rw [if_neg z] at hK
      exact p_sumOf (c := 29) (row := Peat P) (by omega) hT.2.2.2.2.2.2.2 (by omega) (hv p) h hK
  · unfold aLoad at hK
    rw [e1, e2] at hK; exact hK
  · unfold aLoad at hK
    rw [e1] at hK; exact hK
def aWhose (P : aP) (w : aW) (x y : Int32) : Int32 := match iPN P x y with
  | some q => nI (bsum (fun i => w i q.1 q.2) 6)
  | none => -1
theorem c_whose {P : aP} {w : aW} {rows : Nat → Int64} {x y : Int32} {K : Int32 → Prop} (hP : PV1 P) (h : rW rows w) (hK : K (aWhose P w x y)) : wpX8_whose (nI (Pnp P)) (nI (Pnn P)) rows x y K := by
  have hnp := hP.1.1
  have hnn := hP.1.2.1
  unfold wpX8_whose
  unfold aWhose at hK
  refine p_isLodging hP (fun q e => i1 ?_) (fun e => i0 ?_)
  · have hq := iPN_s hP e
    rw [e] at hK
    rw [hq.2.2.1, hq.2.2.2]
    have hw := wr_lt w q.1
    refine p_about h (by omega) (p_callers (by omega) (by omega) ?_)
    rw [cal_wr w q.1 (by omega)]
    exact hK
  · rw [e] at hK; exact hK
def WV (P : aP) (w : aW) : Prop := (∀ i j n, w i j n = true → i < Pnp P ∧ j < Pnp P ∧ i ≠ j ∧ n < Pnn P) ∧ tot w ≤ 12
theorem WV.f {P : aP} {w : aW} (h : WV P w) {i j n : Nat} (hi : Pnp P ≤ i) : w i j n = false := by
  cases e : w i j n with
  | false => rfl
  | true => have := (h.1 i j n e).1; omega
theorem bsum_ext {f : Nat → Bool} {a b : Nat} (hab : a ≤ b) (h : ∀ k, a ≤ k → k < b → f k = false) : bsum f b = bsum f a := by
  induction b with
  | zero => rw [show a = 0 by omega]
  | succ b ih =>
    rcases Nat.lt_or_ge b a with q | q
    · rw [show a = b + 1 by omega]
    · show bsum f b + (if f b then 2 ^ b else 0) = _
      rw [ih q (fun k h1 h2 => h k h1 (by omega)), h b q (by omega)]; rfl
theorem r_whose {P : aP} {told s : Nat → Int32} {w : aW} {st : aT} {d l : Int32} {x y : Int32} {K : Int32 → Prop} (hP : PV1 P) (hW : WV P w) (hT : rT P told) (h : rS s w st d l) (hK : K (aWhose P w x y)) : wpX9_whose told s x y K := by
  have hnp6 := hP.1.1
  have hnn8 := hP.1.2.1
  unfold wpX9_whose
  unfold aWhose at hK
  refine p_isPerson9 hP hT (fun p e1 => i1 (p_isName9 hP hT (fun n e2 => i1 ?_) (fun e2 => i0 ?_))) (fun e1 => i0 ?_)
  · have hq := iPN_s hP (iPN_m e1 e2)
    rw [iPN_m e1 e2] at hK
    have hp6 : p < 6 := by have := hq.1; dsimp only at this; omega
    have hn8 : n < 8 := by have := hq.2.1; dsimp only at this; omega
    have e6 : bsum (fun i => w i p n) 6 = bsum (fun i => w i p n) (Pnp P) := bsum_ext hnp6 (fun i h1 _ => hW.f h1)
    dsimp only at hK
    rw [e6] at hK
    rw [hq.2.2.1, hq.2.2.2]
    intro J hJ
    refine kloop (J := fun k => J (nI (bsum (fun i => w i p n) k)) (nI k)) (N := Pnp P) ?_ ?_
    · refine hJ _ _ ⟨vl 0 _ (by omega) (by omega), ?_⟩
      rw [k0, hT.1]
      exact it_le (by omega) (by omega) (fun _ => hK) (fun q => absurd q (by omega))
    · intro i hi hnx
      refine hJ _ _ ⟨vl 0 _ (by omega) (by omega), ?_⟩
      rw [k0, hT.1]
      refine it_le (by omega) (by omega) (fun q => absurd q (by omega)) (fun _ => ?_)
      dsimp only
      rw [m6, a48, nI_add, nI_clamp (by omega), h.2.1 i (by omega) p hp6, sh_bit (wm_lt w i p) hn8, wm_tb w i p hn8]
      refine ⟨vl _ _ (by omega) (by omega), ?_⟩
      intro J1 hJ1
      have e : bsum (fun i => w i p n) (i + 1) = bsum (fun i => w i p n) i + (if w i p n then 2 ^ i else 0) := rfl
      cases hb : w i p n with
      | true =>
        rw [hb, if_pos rfl] at e
        rw [if_pos (show nI (bI true) = 1 from rfl)]
        refine hJ1 _ ?_
        intro z hz
        rw [hz, or_k i (by omega) _ (bsum_lt _ i), nI_1, ← e]
        exact hnx
      | false =>
        rw [hb, if_neg (by decide)] at e
        rw [if_neg (show ¬ nI (bI false) = 1 by decide)]
        refine hJ1 _ ?_
        intro z hz
        rw [hz, or_0, nI_1]
        rw [e.trans (Nat.add_zero _)] at hnx
        exact hnx
  · rw [iPN_n2 e2] at hK; exact hK
  · rw [iPN_n1 e1] at hK; exact hK
/-! sums the other way round -/
theorem nsum_f2 (f g : Nat → Nat) (k : Nat) : nsum (fun i => f i + g i) k = nsum f k + nsum g k := by
  induction k with
  | zero => rfl
  | succ k ih => show nsum (fun i => f i + g i) k + (f k + g k) = (nsum f k + f k) + (nsum g k + g k); omega
theorem nsum_0 (k : Nat) : nsum (fun _ => 0) k = 0 := by
  induction k with
  | zero => rfl
  | succ k ih => show nsum (fun _ => 0) k + 0 = 0; omega
theorem nsum_comm (f : Nat → Nat → Nat) (a b : Nat) : nsum (fun i => nsum (fun j => f i j) b) a = nsum (fun j => nsum (fun i => f i j) a) b := by
  induction a with
  | zero => exact (nsum_0 b).symm
  | succ a ih =>
    show nsum (fun i => nsum (fun j => f i j) b) a + nsum (fun j => f a j) b = nsum (fun j => nsum (fun i => f i j) a + f a j) b
    rw [nsum_f2, ih]
theorem nsum_mul (f : Nat → Nat) (a b : Nat) : nsum f (a * b) = nsum (fun i => nsum (fun j => f (b * i + j)) b) a := by
  induction a with
  | zero => rw [Nat.zero_mul]; rfl
  | succ a ih =>
    rw [Nat.succ_mul, nsum_add, ih]
    show _ = nsum (fun i => nsum (fun j => f (b * i + j)) b) a + nsum (fun j => f (b * a + j)) b
    rw [Nat.mul_comm a b]
theorem tot_eq (w : aW) : tot w = nsum (fun k => nsum (fun n => bI (w (k / 6) (k % 6) n)) 8) 36 := by
  have e1 : ∀ p, pop48 (wr w p) = nsum (fun n => nsum (fun i => bI (w i p n)) 6) 8 := by
    intro p
    unfold pop48
    rw [show (48 : Nat) = 8 * 6 from rfl, nsum_mul]
    refine nsum_congr (fun n hn => nsum_congr (fun i hi => ?_))
    rw [wr_tb w p hi hn]
  unfold tot
  rw [show (36 : Nat) = 6 * 6 from rfl, nsum_mul]
  rw [nsum_congr (fun p _ => e1 p)]
  have e2 : ∀ i, i < 6 → nsum (fun j => nsum (fun n => bI (w ((6 * i + j) / 6) ((6 * i + j) % 6) n)) 8) 6 = nsum (fun j => nsum (fun n => bI (w i j n)) 8) 6 := by
    intro i hi
    refine nsum_congr (fun j hj => nsum_congr (fun n _ => ?_))
    rw [show (6 * i + j) / 6 = i by omega, show (6 * i + j) % 6 = j by omega]
  rw [nsum_congr e2, nsum_comm (fun i j => nsum (fun n => bI (w i j n)) 8)]
  refine nsum_congr (fun j _ => ?_)
  rw [nsum_comm (fun i n => bI (w i j n))]
theorem p_allWords {s : Nat → Int32} {w : aW} {st : aT} {d l : Int32} {K : Int32 → Prop} (h : rS s w st d l) (hK : K (nI (tot w))) : wpX9_allWords s K := by
  rw [tot_eq] at hK
  unfold wpX9_allWords
  intro J hJ
  refine kloop (J := fun k => J (nI (nsum (fun k => nsum (fun n => bI (w (k / 6) (k % 6) n)) 8) k)) (nI k)) (N := 36) ?_ ?_
  · exact hJ _ _ (it_le (a := 36) (b := 36) (by omega) (by omega) (fun _ => hK) (fun q => absurd q (by omega)))
  · intro k hk hnx
    refine hJ _ _ (it_le (a := 36) (b := k) (by omega) (by omega) (fun q => absurd q (by omega)) (fun _ => ?_))
    have hs := h.2.1 (k / 6) (by omega) (k % 6) (by omega)
    rw [show 48 + 6 * (k / 6) + k % 6 = 48 + k by omega] at hs
    rw [a48, nI_clamp (by omega), hs]
    refine ⟨vl _ _ (by omega) (by omega), ?_⟩
    refine p_ones (wm_lt w _ _) ?_
    intro x hx
    have e : nsum (fun n => bI ((wm w (k / 6) (k % 6)).testBit n)) 8 = nsum (fun n => bI (w (k / 6) (k % 6) n)) 8 := nsum_congr (fun n hn => by rw [wm_tb w _ _ hn])
    rw [hx, e, nI_1, nI_add]
    exact hnx
theorem cnt_ns (st : Nat → Nat) (k : Nat) : cntTo st k = nsum (fun n => if st n = 0 then 0 else 1) k := by
  induction k with
  | zero => rfl
  | succ k ih => show cntTo st k + _ = nsum _ k + _; rw [ih]
theorem lodT_eq {P : aP} {st : aT} (h6 : Pnp P ≤ 6) (hz : ∀ p, Pnp P ≤ p → ∀ n, st p n = 0) : lodT st = nsum (fun p => cntTo (st p) 8) (Pnp P) := by
  unfold lodT
  rw [show (48 : Nat) = 6 * 8 from rfl, nsum_mul]
  have e2 : ∀ p, p < 6 → nsum (fun n => if st ((8 * p + n) / 8) ((8 * p + n) % 8) = 0 then 0 else 1) 8 = cntTo (st p) 8 := by
    intro p hp
    rw [cnt_ns]
    refine nsum_congr (fun n hn => ?_)
    rw [show (8 * p + n) / 8 = p by omega, show (8 * p + n) % 8 = n by omega]
  rw [nsum_congr e2]
  refine nsum_ext h6 (fun p h1 _ => ?_)
  rw [cnt_ns, nsum_congr (g := fun _ => 0) (fun n _ => by rw [hz p h1 n]; rfl), nsum_0]
theorem p_lodgings9 {P : aP} {s told : Nat → Int32} {w : aW} {st : aT} {d l : Int32} {K : Int32 → Prop} (hP : PV P) (hT : rT P told) (h : rS s w st d l) (hv : ∀ p, V (st p)) (hz : ∀ p, Pnp P ≤ p → ∀ n, st p n = 0) (hK : K (nI (lodT st))) : wpX9_lodgings told s K := by
  have h6 := hP.1
  rw [lodT_eq h6 hz] at hK
  unfold wpX9_lodgings
  intro J hJ
  refine kloop (J := fun k => J (nI (nsum (fun p => cntTo (st p) 8) k)) (nI k)) (N := Pnp P) ?_ ?_
  · refine hJ _ _ ⟨vl 0 _ (by omega) (by omega), ?_⟩
    rw [k0, hT.1]
    exact it_le (by omega) (by omega) (fun _ => hK) (fun q => absurd q (by omega))
  · intro p hp hnx
    refine hJ _ _ ⟨vl 0 _ (by omega) (by omega), ?_⟩
    rw [k0, hT.1]
    refine it_le (by omega) (by omega) (fun q => absurd q (by omega)) (fun _ => ?_)
    refine p_lodgers9 (by omega) (hv p) h ?_
    refine p_ones (bsum_lt _ 8) ?_
    rw [cnt_lod]
    intro x hx
    rw [hx, nI_1, nI_add]
    exact hnx

def aCount (P : aP) (w : aW) (st : aT) (d l : Int32) (sn pc kc tl : Nat) (x : Int32) : Int32 := if x = 0 then nI (Pnp P) else if x = 1 then nI (Pnn P) else if x = 2 then nI (tot w) else if x = 3 then nI (lodT st) else if x = 4 then d else if x = 5 then l else if x = 6 then nI (Pq P) else if x = 7 then nI sn else if x = 8 then nI pc else if x = 9 then nI kc else if x = 10 then nI tl else -1
theorem c_count {P : aP} {w : aW} {st : aT} {d l : Int32} {sn pc kc tl : Nat} {rows : Nat → Int64} {f : Nat → Int32} {x : Int32} {K : Int32 → Prop} (hv : ∀ p, V (st p)) (hw : rW rows w) (h : rD f st) (hK : K (aCount P w st d l sn pc kc tl x)) : wpX8_count (nI (Pnp P)) (nI (Pnn P)) (nI (Pq P)) d l rows f (nI pc) (nI kc) (nI sn) (nI tl) x K := by
  unfold wpX8_count
  unfold aCount at hK
  by_cases c0 : x = 0
  · rw [if_pos c0] at hK ⊢; exact hK
  rw [if_neg c0] at hK ⊢
  by_cases c1 : x = 1
  · rw [if_pos c1] at hK ⊢; exact hK
  rw [if_neg c1] at hK ⊢
  by_cases c2 : x = 2
  · rw [if_pos c2] at hK ⊢; exact p_total hw hK
  rw [if_neg c2] at hK ⊢
  by_cases c3 : x = 3
  · rw [if_pos c3] at hK ⊢; exact p_lodgings hv h hK
  rw [if_neg c3] at hK ⊢
  exact (by
    by_cases c4 : x = 4
    · rw [if_pos c4] at hK ⊢; exact hK
    rw [if_neg c4] at hK ⊢
    by_cases c5 : x = 5
    · rw [if_pos c5] at hK ⊢; exact hK
    rw [if_neg c5] at hK ⊢
    by_cases c6 : x = 6
    · rw [if_pos c6] at hK ⊢; exact hK
    rw [if_neg c6] at hK ⊢
    by_cases c7 : x = 7
    · rw [if_pos c7] at hK ⊢; exact hK
    rw [if_neg c7] at hK ⊢
    by_cases c8 : x = 8
    · rw [if_pos c8] at hK ⊢; exact hK
    rw [if_neg c8] at hK ⊢
    by_cases c9 : x = 9
    · rw [if_pos c9] at hK ⊢; exact hK
    rw [if_neg c9] at hK ⊢
    by_cases c10 : x = 10
    · rw [if_pos c10] at hK ⊢; exact hK
    rw [if_neg c10] at hK ⊢
    exact hK)
theorem r_count {P : aP} {told s : Nat → Int32} {w : aW} {st : aT} {d l : Int32} {sn pc kc tl : Nat} {x : Int32} {K : Int32 → Prop} (hP : PV P) (hT : rT P told) (h : rS s w st d l) (hv : ∀ p, V (st p)) (hz : ∀ p, Pnp P ≤ p → ∀ n, st p n = 0) (hK : K (aCount P w st d l sn pc kc tl x)) : wpX9_count (nI tl) (nI pc) (nI kc) (nI sn) told s x K := by
  unfold wpX9_count
  unfold aCount at hK
  rw [k0, k1, k2, k84, k85, hT.1, hT.2.1, hT.2.2.1, h.2.2.1, h.2.2.2]
  by_cases c0 : x = 0
  · rw [if_pos c0] at hK ⊢; exact ⟨vl 0 _ (by omega) (by omega), hK⟩
  rw [if_neg c0] at hK ⊢
  by_cases c1 : x = 1
  · rw [if_pos c1] at hK ⊢; exact ⟨vl 1 _ (by omega) (by omega), hK⟩
  rw [if_neg c1] at hK ⊢
  by_cases c2 : x = 2
  · rw [if_pos c2] at hK ⊢; exact p_allWords h hK
  rw [if_neg c2] at hK ⊢
  by_cases c3 : x = 3
  · rw [if_pos c3] at hK ⊢; exact p_lodgings9 hP hT h hv hz hK
  rw [if_neg c3] at hK ⊢
  by_cases c4 : x = 4
  · rw [if_pos c4] at hK ⊢; exact ⟨vl 84 _ (by omega) (by omega), hK⟩
  rw [if_neg c4] at hK ⊢
  by_cases c5 : x = 5
  · rw [if_pos c5] at hK ⊢; exact ⟨vl 85 _ (by omega) (by omega), hK⟩
  rw [if_neg c5] at hK ⊢
  by_cases c6 : x = 6
  · rw [if_pos c6] at hK ⊢; exact ⟨vl 2 _ (by omega) (by omega), hK⟩
  rw [if_neg c6] at hK ⊢
  by_cases c7 : x = 7
  · rw [if_pos c7] at hK ⊢; exact hK
  rw [if_neg c7] at hK ⊢
  by_cases c8 : x = 8
  · rw [if_pos c8] at hK ⊢; exact hK
  rw [if_neg c8] at hK ⊢
  by_cases c9 : x = 9
  · rw [if_pos c9] at hK ⊢; exact hK
  rw [if_neg c9] at hK ⊢
  by_cases c10 : x = 10
  · rw [if_pos c10] at hK ⊢; exact hK
  rw [if_neg c10] at hK ⊢
  exact hK
