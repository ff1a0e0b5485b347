/-! pure: days of the class -/
def itS (D : (Nat → Nat) → (Nat → Nat) × Nat) (st : Nat → Nat) : Nat → (Nat → Nat)
  | 0 => st
  | k + 1 => (D (itS D st k)).1
def loS (D : (Nat → Nat) → (Nat → Nat) × Nat) (st : Nat → Nat) (n : Nat) : Nat := nsum (fun k => pop8 (D (itS D st k)).2) n
def Dp (P : aP) (w : aW) (p : Nat) : (Nat → Nat) → (Nat → Nat) × Nat := dayS (Pnn P) (Pkind P p) (Pbed P p) (Pfood P p) (Pq P) (Punk P) (Peat P) (cw w p)
theorem dayS_b {nn kind beds food q : Nat} {unk eat c st : Nat → Nat} (hnn : nn ≤ 8) : (dayS nn kind beds food q unk eat c st).2 < 256 := by
  unfold dayS
  split
  · omega
  · have := dayTo_b (nn := nn) (kind := kind) (beds := beds) (q := q) (unk := unk) (cw := c) (st := st) nn
    have h2 : 2 ^ nn ≤ 2 ^ 8 := Nat.pow_le_pow_right (by decide) hnn
    show (dayTo nn kind beds q unk c st nn).2 < 256
    omega
def rPt (P : aP) (np nn q : Int32) (kinds beds foods unk eats : Nat → Int32) : Prop := np = nI (Pnp P) ∧ nn = nI (Pnn P) ∧ q = nI (Pq P) ∧ Rp (Pnp P) kinds (Pkind P) ∧ Rp (Pnp P) beds (Pbed P) ∧ Rp (Pnp P) foods (Pfood P) ∧ Rp (Pnn P) unk (Punk P) ∧ Rp (Pnn P) eats (Peat P)
theorem itS_V {D : (Nat → Nat) → (Nat → Nat) × Nat} (hD : ∀ s, V s → V (D s).1) {st : Nat → Nat} (h : V st) : ∀ k, V (itS D st k) := by
  intro k
  induction k with
  | zero => exact h
  | succ k ih => exact hD _ ih
theorem itS_Z {D : (Nat → Nat) → (Nat → Nat) × Nat} {nn : Nat} (hD : ∀ s, Z nn s → Z nn (D s).1) {st : Nat → Nat} (h : Z nn st) : ∀ k, Z nn (itS D st k) := by
  intro k
  induction k with
  | zero => exact h
  | succ k ih => exact hD _ ih
theorem Dp_V {P : aP} {w : aW} {p : Nat} : ∀ s, V s → V (Dp P w p s).1 := fun _ h => h.day (cw_lt w p)
theorem Dp_Z {P : aP} {w : aW} {p : Nat} : ∀ s, Z (Pnn P) s → Z (Pnn P) (Dp P w p s).1 := fun _ h => h.day
theorem p_passDayP {P : aP} {w : aW} {p : Nat} {st : Nat → Nat} {hs kinds beds foods pu pe : Nat → Int32} {np nn q : Int32} {K : Int32 → (Nat → Int32) → Prop} (hP : PV P) (hR : rPt P np nn q kinds beds foods pu pe) (hv : V st) (hz : Z (Pnn P) st) (hst : Rp 8 hs st)
    (h : ∀ f, Rp 8 f (Dp P w p st).1 → K (nI (Dp P w p st).2) f) : wpX0_passDay (nI (Pkind P p)) (nI (Pbed P p)) (nI (Pfood P p)) (lN (wr w p)) hs nn q pu pe K := by
  obtain ⟨hnp, hnn, hq, hkd, hbd, hfd, hu, he⟩ := hP
  obtain ⟨r1, r2, r3, r4, r5, r6, r7, r8⟩ := hR
  have hw := wr_lt w p
  have e : Dp P w p st = dayS (Pnn P) (Pkind P p) (Pbed P p) (Pfood P p) (Pq P) (Punk P) (Peat P) (cwR (wr w p)) st := dayS_cw (fun k hk => (cwR_wr w p (by omega)).symm)
  rw [e] at h
  rw [r2, r3]
  exact p_passDay hnn (hkd p) (hbd p) (hfd p) hq.2 (by omega) hv hu he hst r7 r8 hz h
theorem p_hpassDays {P : aP} {w : aW} {p n : Nat} {st : Nat → Nat} {hs kinds beds foods pu pe : Nat → Int32} {np nn q : Int32} {K : Int32 → (Nat → Int32) → Prop} (hP : PV P) (hR : rPt P np nn q kinds beds foods pu pe) (hn : n < 100) (hv : V st) (hz : Z (Pnn P) st) (hst : Rp 8 hs st)
    (h : ∀ f, Rp 8 f (itS (Dp P w p) st n) → K (nI (loS (Dp P w p) st n)) f) : wpX0_passDays (nI (Pkind P p)) (nI (Pbed P p)) (nI (Pfood P p)) (lN (wr w p)) hs nn q pu pe (nI n) K := by
  unfold wpX0_passDays
  intro J hJ
  refine (kloop (J := fun k => ∀ f, Rp 8 f (itS (Dp P w p) st k) → J (nI (loS (Dp P w p) st k)) (nI k) f) (N := n) ?_ ?_) hs hst
  · intro f hf
    exact hJ _ _ _ (it_le (by omega) (by omega) (fun _ => h f hf) (fun q => absurd q (by omega)))
  · intro k hk hnx f hf
    refine hJ _ _ _ (it_le (by omega) (by omega) (fun q => absurd q (by omega)) (fun _ => ?_))
    refine p_passDayP (w := w) (p := p) hP hR (itS_V Dp_V hv k) (itS_Z Dp_Z hz k) hf ?_
    intro g hg
    refine p_bit32 (dayS_b hP.2.1) ?_
    intro x hx
    rw [hx, nI_1, nI_add]
    exact hnx g hg
theorem p_enter {P : aP} {w : aW} {st : aT} {p : Nat} {np nn q : Int32} {hs kinds beds foods pu pe f : Nat → Int32} {rows : Nat → Int64} {K : Int32 → Int32 → Int32 → Int64 → (Nat → Int32) → Prop} (hP : PV P) (hR : rPt P np nn q kinds beds foods pu pe) (hp : p < Pnp P) (hw : rW rows w) (hs' : rD f st)
    (h : ∀ g, Rp 8 g (st p) → K (nI (Pkind P p)) (nI (Pbed P p)) (nI (Pfood P p)) (lN (wr w p)) g) : wpX0_enter hs kinds beds foods rows f (nI p) K := by
  obtain ⟨hnp, hnn, hq, hkd, hbd, hfd, hu, he⟩ := hP
  obtain ⟨r1, r2, r3, r4, r5, r6, r7, r8⟩ := hR
  unfold wpX0_enter
  refine p_atR r4 (by omega) hp (by decide) (p_atR r5 (by omega) hp (by decide) (p_atR r6 (by omega) hp (by decide) (p_about hw (by omega) ?_)))
  intro J hJ
  refine (kloop (J := fun k => ∀ g, (∀ j, j < k → g j = nI (st p j)) → J (nI k) g) (N := 8) ?_ ?_) hs (fun j hj => absurd hj (by omega))
  · intro g hg
    exact hJ _ _ (it_le (a := 8) (b := 8) (by omega) (by omega) (fun _ => h g hg) (fun q => absurd q (by omega)))
  · intro k hk hnx g hg
    refine hJ _ _ (it_le (a := 8) (b := k) (by omega) (by omega) (fun q => absurd q (by omega)) (fun _ => ?_))
    refine p_stoutAt hs' (by omega) hk (p_put hk (by decide) ?_)
    rw [nI_1]
    refine hnx _ (fun j hj => ?_)
    by_cases e : j = k
    · subst e; exact pk_us
    · rw [pk_un e]; exact hg j (by omega)
theorem p_settle {st : aT} {v : Nat → Nat} {p : Nat} {hs f : Nat → Int32} {K : (Nat → Int32) → Prop} (hp : p < 6) (hh : Rp 8 hs v) (hs' : rD f st) (h : ∀ g, rD g (uT st p (fun n => if n < 8 then v n else st p n)) → K g) : wpX0_settle hs f (nI p) K := by
  unfold wpX0_settle
  intro J hJ
  refine (kloop (J := fun k => ∀ g, rD g (uT st p (fun n => if n < k then v n else st p n)) → J (nI k) g) (N := 8) ?_ ?_) f ?_
  · intro g hg
    exact hJ _ _ (it_le (a := 8) (b := 8) (by omega) (by omega) (fun _ => h g hg) (fun q => absurd q (by omega)))
  · intro k hk8 hnx g hg
    refine hJ _ _ (it_le (a := 8) (b := k) (by omega) (by omega) (fun q => absurd q (by omega)) (fun _ => ?_))
    refine p_atR hh hk8 hk8 (by decide) ?_
    refine p_setStout hg hp hk8 ?_
    intro g2 hg2
    rw [nI_1]
    refine hnx g2 ?_
    rw [uT_s, uT_uT] at hg2
    have e : uA (fun n => if n < k then v n else st p n) k (v k) = fun n => if n < k + 1 then v n else st p n := by
      funext n
      unfold uA
      by_cases e : n = k
      · subst e; rw [if_pos rfl, if_pos (by omega)]
      · rw [if_neg e]
        dsimp only
        by_cases e2 : n < k
        · rw [if_pos e2, if_pos (by omega)]
        · rw [if_neg e2, if_neg (by omega)]
    rw [← e]
    exact hg2
  · have e : (fun n => if n < 0 then v n else st p n) = st p := by funext n; rw [if_neg (by omega)]
    rw [e, uT_id]
    exact hs'
theorem z_settle {st : aT} {v : Nat → Nat} {nn p : Nat} (hnn : nn ≤ 8) (h1 : Z nn v) (h2 : Z nn (st p)) : (fun n => if n < 8 then v n else st p n) = v := by
  funext n
  by_cases e : n < 8
  · rw [if_pos e]
  · rw [if_neg e, h1 n (by omega), h2 n (by omega)]
/-- all persons' days -/
def daysT (P : aP) (w : aW) (st : aT) (n : Nat) : aT := fun p => if p < Pnp P then itS (Dp P w p) (st p) n else st p
def lostN (P : aP) (w : aW) (st : aT) (n : Nat) : Nat := nsum (fun p => loS (Dp P w p) (st p) n) (Pnp P)
theorem p_opassDays {P : aP} {w : aW} {st : aT} {n : Nat} {np nn q hk hb hf d l : Int32} {hw : Int64} {hs kinds beds foods pu pe f : Nat → Int32} {rows : Nat → Int64} {K : Int32 → Int32 → Int32 → Int64 → (Nat → Int32) → Int32 → Int32 → (Nat → Int32) → Prop} (hP : PV P) (hR : rPt P np nn q kinds beds foods pu pe) (hn : n < 100) (hv : ∀ p, V (st p)) (hz : ∀ p, Z (Pnn P) (st p)) (hwr : rW rows w) (hs' : rD f st)
    (h : ∀ a b c e g g2, rD g2 (daysT P w st n) → K a b c e g (d + nI n) (l + nI (lostN P w st n)) g2) : wpX1_passDays np nn q kinds beds foods pu pe hk hb hf hw hs d l rows f (nI n) K := by
  have hP0 := hP
  have hR0 := hR
  obtain ⟨hnp, hnn, hq, hkd, hbd, hfd, hu, he⟩ := hP
  obtain ⟨r1, r2, r3, r4, r5, r6, r7, r8⟩ := hR
  unfold wpX1_passDays
  intro J hJ
  suffices key : ∀ a b c e g, ∀ g2, rD g2 (fun p => if p < 0 then itS (Dp P w p) (st p) n else st p) → J (nI 0) a b c e g (l + nI (nsum (fun p => loS (Dp P w p) (st p) n) 0)) g2 by
    have := key hk hb hf hw hs f (by
      intro p hp m hm
      dsimp only
      rw [if_neg (by omega)]
      exact hs' p hp m hm)
    rw [show l + nI (nsum (fun p => loS (Dp P w p) (st p) n) 0) = l from by rw [show nI (nsum (fun p => loS (Dp P w p) (st p) n) 0) = (0 : Int32) from rfl]; simp] at this
    exact this
  refine kloop (J := fun k => ∀ a b c e g, ∀ g2, rD g2 (fun p => if p < k then itS (Dp P w p) (st p) n else st p) → J (nI k) a b c e g (l + nI (nsum (fun p => loS (Dp P w p) (st p) n) k)) g2) (N := Pnp P) ?_ ?_
  · intro a b c e g g2 hg2
    refine hJ _ _ _ _ _ _ _ _ ?_
    rw [r1]
    exact it_le (by omega) (by omega) (fun _ => h a b c e g g2 hg2) (fun q => absurd q (by omega))
  · intro k hkn hnx a b c e g g2 hg2
    refine hJ _ _ _ _ _ _ _ _ ?_
    rw [r1]
    refine it_le (by omega) (by omega) (fun q => absurd q (by omega)) (fun _ => ?_)
    refine p_enter hP0 hR0 hkn hwr hg2 ?_
    intro g3 hg3
    rw [if_neg (by omega)] at hg3
    refine p_hpassDays (w := w) (p := k) hP0 hR0 hn (hv k) (hz k) hg3 ?_
    intro g4 hg4
    refine p_settle (by omega) hg4 hg2 ?_
    intro g5 hg5
    rw [nI_1, Int32.add_assoc, nI_add]
    refine hnx _ _ _ _ _ g5 ?_
    rw [if_neg (show ¬ k < k by omega), z_settle hnn (itS_Z Dp_Z (hz k) n) (hz k)] at hg5
    have e : (uT (fun p => if p < k then itS (Dp P w p) (st p) n else st p) k (itS (Dp P w k) (st k) n)) = fun p => if p < k + 1 then itS (Dp P w p) (st p) n else st p := by
      funext p
      unfold uT
      by_cases e : p = k
      · subst e; rw [if_pos rfl, if_pos (by omega)]
      · rw [if_neg e]
        dsimp only
        by_cases e2 : p < k
        · rw [if_pos e2, if_pos (by omega)]
        · rw [if_neg e2, if_neg (by omega)]
    rw [← e]
    exact hg5
