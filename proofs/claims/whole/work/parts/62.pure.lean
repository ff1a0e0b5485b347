/-! pure: days of the reference -/
/-- a state of the standing that keeps its rules -/
def SV (P : aP) (w : aW) (st : aT) : Prop := WV P w ∧ (∀ p, V (st p)) ∧ (∀ p, Z (Pnn P) (st p)) ∧ (∀ p, Pnp P ≤ p → ∀ n, st p n = 0) ∧ (∀ p, Pkind P p = 4 → ∀ n, st p n = 0)
def WF (P : aP) (w : aW) : Prop := ∀ i j n, w i j n = true → i < Pnp P ∧ j < Pnp P ∧ i ≠ j ∧ n < Pnn P
/-- the same without the number of words -/
def SV0 (P : aP) (w : aW) (st : aT) : Prop := WF P w ∧ (∀ p, V (st p)) ∧ (∀ p, Z (Pnn P) (st p)) ∧ (∀ p, Pnp P ≤ p → ∀ n, st p n = 0) ∧ (∀ p, Pkind P p = 4 → ∀ n, st p n = 0)
theorem SV.z {P : aP} {w : aW} {st : aT} (h : SV P w st) : SV0 P w st := ⟨h.1.1, h.2⟩
theorem WF.f {P : aP} {w : aW} (h : WF P w) {i j n : Nat} (hi : Pnp P ≤ i) : w i j n = false := by
  cases e : w i j n with
  | false => rfl
  | true => have := (h i j n e).1; omega
theorem Dp_4 {P : aP} {w : aW} {p : Nat} {s : Nat → Nat} (h4 : Pkind P p = 4) : Dp P w p s = (s, 0) := by
  unfold Dp dayS
  rw [if_pos h4]
theorem itS_4 {P : aP} {w : aW} {p : Nat} {s : Nat → Nat} (h4 : Pkind P p = 4) : ∀ n, itS (Dp P w p) s n = s := by
  intro n
  induction n with
  | zero => rfl
  | succ n ih => show (Dp P w p (itS (Dp P w p) s n)).1 = s; rw [ih, Dp_4 h4]
theorem SV0.days {P : aP} {w : aW} {st : aT} (h : SV0 P w st) (n : Nat) : SV0 P w (daysT P w st n) := by
  obtain ⟨h1, h2, h3, h4, h5⟩ := h
  refine ⟨h1, fun p => ?_, fun p => ?_, fun p hp k => ?_, fun p hk k => ?_⟩
  · unfold daysT; split
    · exact itS_V Dp_V (h2 p) n
    · exact h2 p
  · unfold daysT; split
    · exact itS_Z Dp_Z (h3 p) n
    · exact h3 p
  · unfold daysT; rw [if_neg (by omega)]; exact h4 p hp k
  · unfold daysT; split
    · rw [itS_4 hk]; exact h5 p hk k
    · exact h5 p hk k
theorem SV.days {P : aP} {w : aW} {st : aT} (h : SV P w st) (n : Nat) : SV P w (daysT P w st n) := ⟨h.1, (h.z.days n).2⟩
theorem daysT_0 (P : aP) (w : aW) (st : aT) : daysT P w st 0 = st := by
  funext p
  unfold daysT
  split <;> rfl
theorem daysT_1 (P : aP) (w : aW) (st : aT) (n : Nat) : daysT P w st (n + 1) = daysT P w (daysT P w st n) 1 := by
  funext p
  unfold daysT
  by_cases h : p < Pnp P
  · rw [if_pos h, if_pos h, if_pos h]; rfl
  · rw [if_neg h, if_neg h, if_neg h]
theorem lostN_0 (P : aP) (w : aW) (st : aT) : lostN P w st 0 = 0 := nsum_0 _
theorem lostN_1 (P : aP) (w : aW) (st : aT) (n : Nat) : lostN P w st (n + 1) = lostN P w st n + lostN P w (daysT P w st n) 1 := by
  unfold lostN
  rw [← nsum_f2]
  refine nsum_congr (fun p hp => ?_)
  have e : daysT P w st n p = itS (Dp P w p) (st p) n := if_pos hp
  rw [e]
  show loS (Dp P w p) (st p) n + pop8 (Dp P w p (itS (Dp P w p) (st p) n)).2 = _ + (0 + pop8 (Dp P w p (itS (Dp P w p) (st p) n)).2)
  omega
/-- who is first without a bed on the next day: the reference's number of it -/
def woP (P : aP) (w : aW) (st : aT) : Nat → Int32
  | 0 => -4
  | p + 1 => woS (woP P w st p) p (Dp P w p (st p)).2
theorem p_passes0 {P : aP} {told s : Nat → Int32} {w : aW} {st : aT} {d l : Int32} {K : Int32 → (Nat → Int32) → Prop} (hP : PV1 P) (hT : rT P told) (hS : SV0 P w st) (h : rS s w st d l)
    (hK : ∀ s', rS s' w (daysT P w st 1) (d + 1) (l + nI (lostN P w st 1)) → K (woP P w st (Pnp P)) s') : wpX9_passes told s K := by
  have h6 := hP.1.1
  obtain ⟨h1, h2, h3, h4, h5⟩ := hS
  unfold wpX9_passes
  intro J hJ
  suffices key : ∀ s', rS s' w (fun p => if p < 0 then itS (Dp P w p) (st p) 1 else st p) d (l + nI (nsum (fun p => loS (Dp P w p) (st p) 1) 0)) → J (nI 0) (woP P w st 0) s' by
    refine key s ?_
    rw [show l + nI (nsum (fun p => loS (Dp P w p) (st p) 1) 0) = l from by rw [show nI (nsum (fun p => loS (Dp P w p) (st p) 1) 0) = (0 : Int32) from rfl]; simp]
    have e : (fun p => if p < 0 then itS (Dp P w p) (st p) 1 else st p) = st := by funext p; rw [if_neg (by omega)]
    rw [e]
    exact h
  refine kloop (J := fun k => ∀ s', rS s' w (fun p => if p < k then itS (Dp P w p) (st p) 1 else st p) d (l + nI (nsum (fun p => loS (Dp P w p) (st p) 1) k)) → J (nI k) (woP P w st k) s') (N := Pnp P) ?_ ?_
  · intro s' hs'
    refine hJ _ _ _ ⟨vl 0 _ (by omega) (by omega), ?_⟩
    rw [k0, hT.1]
    refine it_le (by omega) (by omega) (fun _ => ?_) (fun q => absurd q (by omega))
    refine ⟨vl 84 _ (by omega) (by omega), vl 84 _ (by omega) (by omega), ?_⟩
    rw [k84, hs'.2.2.1]
    exact hK _ (hs'.days _)
  · intro k hk hnx s' hs'
    refine hJ _ _ _ ⟨vl 0 _ (by omega) (by omega), ?_⟩
    rw [k0, hT.1]
    refine it_le (by omega) (by omega) (fun q => absurd q (by omega)) (fun _ => ?_)
    obtain ⟨X, hX⟩ : ∃ X : aT, X = fun p => if p < k then itS (Dp P w p) (st p) 1 else st p := ⟨_, rfl⟩
    rw [← hX] at hs'
    have ek : X k = st k := by rw [hX]; exact if_neg (by omega)
    refine p_goesBy (wo := woP P w st k) hP.1 hP.2.2 hT (by omega) (fun n i hi => h1.f hi) (by rw [ek]; exact h2 k) (by rw [ek]; exact h3 k) (by rw [ek]; exact h5 k) hs' ?_
    intro s2 hs2
    rw [ek] at hs2
    rw [ek, nI_1]
    refine hnx s2 ?_
    have e : (uT X k (Dp P w k (st k)).1) = fun p => if p < k + 1 then itS (Dp P w p) (st p) 1 else st p := by
      rw [hX]
      funext p
      unfold uT
      by_cases e : p = k
      · subst e; rw [if_pos rfl, if_pos (by omega)]; rfl
      · rw [if_neg e]
        dsimp only
        by_cases e2 : p < k
        · rw [if_pos e2, if_pos (by omega)]
        · rw [if_neg e2, if_neg (by omega)]
    rw [← e]
    have e2 : l + nI (nsum (fun p => loS (Dp P w p) (st p) 1) (k + 1)) = l + nI (nsum (fun p => loS (Dp P w p) (st p) 1) k) + nI (pop8 (Dp P w k (st k)).2) := by
      rw [Int32.add_assoc, nI_add]
      show l + nI (nsum _ k + (0 + pop8 (Dp P w k (st k)).2)) = _
      rw [Nat.zero_add]
    rw [e2]
    exact hs2
theorem p_passes {P : aP} {told s : Nat → Int32} {w : aW} {st : aT} {d l : Int32} {K : Int32 → (Nat → Int32) → Prop} (hP : PV1 P) (hT : rT P told) (hS : SV P w st) (h : rS s w st d l)
    (hK : ∀ s', rS s' w (daysT P w st 1) (d + 1) (l + nI (lostN P w st 1)) → K (woP P w st (Pnp P)) s') : wpX9_passes told s K := p_passes0 hP hT hS.z h hK
/-- n days of the reference, from a loop's head -/
theorem p_loopDays0 {P : aP} {told : Nat → Int32} {w : aW} {st : aT} {d l : Int32} {n : Nat} {J : Int32 → Int32 → (Nat → Int32) → Prop} (hP : PV1 P) (hT : rT P told) (hS : SV0 P w st) (hn : n < 2 ^ 31)
    (hend : ∀ wo s', rS s' w (daysT P w st n) (d + nI n) (l + nI (lostN P w st n)) → J (nI n) wo s')
    (hstep : ∀ k wo s', k < n → (wpX9_passes told s' (fun wo' s2 => J (nI k + 1) wo' s2)) → J (nI k) wo s')
    {s : Nat → Int32} (h : rS s w st d l) : ∀ wo, J 0 wo s := by
  suffices key : ∀ wo s', rS s' w (daysT P w st 0) (d + nI 0) (l + nI (lostN P w st 0)) → J (nI 0) wo s' by
    intro wo
    refine key wo s ?_
    rw [daysT_0, lostN_0, show nI 0 = (0 : Int32) from rfl, Int32.add_zero, Int32.add_zero]
    exact h
  refine kloop (J := fun k => ∀ wo s', rS s' w (daysT P w st k) (d + nI k) (l + nI (lostN P w st k)) → J (nI k) wo s') (N := n) hend ?_
  intro k hk hnx wo s' hs'
  refine hstep k wo s' hk ?_
  refine p_passes0 hP hT (hS.days k) hs' ?_
  intro s2 hs2
  rw [nI_1]
  refine hnx _ s2 ?_
  rw [daysT_1, lostN_1, nI_succ, ← nI_add, ← Int32.add_assoc, ← Int32.add_assoc]
  exact hs2
theorem p_loopDays {P : aP} {told : Nat → Int32} {w : aW} {st : aT} {d l : Int32} {n : Nat} {J : Int32 → Int32 → (Nat → Int32) → Prop} (hP : PV1 P) (hT : rT P told) (hS : SV P w st) (hn : n < 2 ^ 31)
    (hend : ∀ wo s', rS s' w (daysT P w st n) (d + nI n) (l + nI (lostN P w st n)) → J (nI n) wo s')
    (hstep : ∀ k wo s', k < n → (wpX9_passes told s' (fun wo' s2 => J (nI k + 1) wo' s2)) → J (nI k) wo s')
    {s : Nat → Int32} (h : rS s w st d l) : ∀ wo, J 0 wo s := p_loopDays0 hP hT hS.z hn hend hstep h
theorem rS_copy {s f : Nat → Int32} {w : aW} {st : aT} {d l : Int32} (h : rS s w st d l) (he : ∀ k, k < 86 → f k = s k) : rS f w st d l := by
  refine ⟨fun p hp n hn => ?_, fun i hi j hj => ?_, ?_, ?_⟩
  · rw [he _ (by omega)]; exact h.1 p hp n hn
  · rw [he _ (by omega)]; exact h.2.1 i hi j hj
  · rw [he _ (by omega)]; exact h.2.2.1
  · rw [he _ (by omega)]; exact h.2.2.2
theorem p_holds {s f : Nat → Int32} {K : (Nat → Int32) → Prop} (hK : ∀ g, (∀ k, k < 86 → g k = s k) → K g) : wpX9_holds s f K := by
  unfold wpX9_holds
  intro J hJ
  refine (kloop (J := fun k => ∀ g, (∀ j, j < k → g j = s j) → J (nI k) g) (N := 86) ?_ ?_) f (fun j hj => absurd hj (by omega))
  · intro g hg
    exact hJ _ _ (it_le (a := 86) (b := 86) (by omega) (by omega) (fun _ => hK g hg) (fun q => absurd q (by omega)))
  · intro k hk hnx g hg
    refine hJ _ _ (it_le (a := 86) (b := k) (by omega) (by omega) (fun q => absurd q (by omega)) (fun _ => ?_))
    refine ⟨vl _ _ (by omega) (by omega), vl _ _ (by omega) (by omega), ?_⟩
    rw [nI_clamp (by omega), nI_1]
    refine hnx _ (fun j hj => ?_)
    by_cases e : j = k
    · subst e; exact pk_us
    · rw [pk_un e]; exact hg j (by omega)
theorem p_lets {s f : Nat → Int32} {K : (Nat → Int32) → Prop} (hK : ∀ g, (∀ k, k < 86 → g k = f k) → K g) : wpX9_lets s f K := p_holds (s := f) (f := s) hK
theorem r_behindJ : True := trivial
/-! behind -/
def aBehind (P : aP) (w : aW) (st : aT) (x y z : Int32) : Int32 := match rx 0 40 x, iPN P y z with
  | some n, some q => nI (daysT P w st n q.1 q.2)
  | _, _ => -1
theorem c_behind {P : aP} {w : aW} {st : aT} {np nn q hk hb hf : Int32} {hw : Int64} {hs kinds beds foods pu pe f : Nat → Int32} {rows : Nat → Int64} {x y z : Int32} {K : Int32 → Int32 → Int32 → Int32 → Int64 → (Nat → Int32) → Prop} (hP : PV1 P) (hR : rPt P np nn q kinds beds foods pu pe) (hwr : rW rows w) (h : rD f st) (hS : SV P w st)
    (hK : ∀ a b c e g, K (aBehind P w st x y z) a b c e g) : wpX8_behind np nn q kinds beds foods pu pe rows f hk hb hf hw hs x y z K := by
  have h8 := hP.1.2.1
  unfold wpX8_behind
  unfold aBehind at hK
  refine p_within (lo := 0) (hi := 40) (by omega) (by omega) (fun n e1 => i1 ?_) (fun e1 => i0 ?_)
  · rw [hR.1, hR.2.1]
    refine p_isLodging hP (fun v e2 => i1 ?_) (fun e2 => i0 ?_)
    · have h1 := rx_some e1
      have h2 := iPN_s hP e2
      rw [e1, e2] at hK
      dsimp only at hK
      have ed : daysT P w st n v.1 = itS (Dp P w v.1) (st v.1) n := if_pos h2.1
      rw [ed] at hK
      rw [h2.2.2.1, h2.2.2.2, h1.2.2]
      refine p_enter hP.1 hR h2.1 hwr h ?_
      intro g hg
      rw [← hR.2.1]
      refine p_hpassDays (w := w) (p := v.1) hP.1 hR (by omega) (hS.2.1 _) (hS.2.2.1 _) hg ?_
      intro g2 hg2
      exact p_atR hg2 (by omega) (by omega) (by decide) (hK _ _ _ _ _)
    · rw [e1, e2] at hK; exact hK _ _ _ _ _
  · rw [e1] at hK; exact hK _ _ _ _ _
theorem r_behind {P : aP} {told s held : Nat → Int32} {w : aW} {st : aT} {d l wo : Int32} {x y z : Int32} {K : Int32 → Int32 → (Nat → Int32) → (Nat → Int32) → Prop} (hP : PV1 P) (hT : rT P told) (h : rS s w st d l) (hS : SV P w st)
    (hK : ∀ wo s' held', rS s' w st d l → K (aBehind P w st x y z) wo s' held') : wpX9_behind wo told s held x y z K := by
  have h6 := hP.1.1
  have h8 := hP.1.2.1
  unfold wpX9_behind
  unfold aBehind at hK
  refine p_in9 (lo := 0) (hi := 40) (by omega) (by omega) (fun n e1 => i1 ?_) (fun e1 => i0 ?_)
  · refine p_isPerson9 hP hT (fun p e2 => i1 (p_isName9 hP hT (fun m e3 => i1 ?_) (fun e3 => i0 ?_))) (fun e2 => i0 ?_)
    · have h1 := rx_some e1
      have h2 := iPN_s hP (iPN_m e2 e3)
      have hp6 : p < 6 := by have := h2.1; dsimp only at this; omega
      have hm8 : m < 8 := by have := h2.2.1; dsimp only at this; omega
      rw [e1, iPN_m e2 e3] at hK
      dsimp only at hK
      rw [h2.2.2.1, h2.2.2.2, h1.2.2]
      refine p_holds ?_
      intro held2 hh2
      intro J hJ
      refine p_loopDays (n := n) (J := J) hP hT hS (by omega) ?_ ?_ h wo
      · intro wo2 s2 hs2
        refine hJ _ _ _ (it_le (by omega) (by omega) (fun _ => ?_) (fun q => absurd q (by omega)))
        dsimp only
        rw [m8, nI_add, nI_clamp (by omega)]
        refine ⟨vl _ _ (by omega) (by omega), ?_⟩
        intro v hv
        rw [hs2.1 p hp6 m hm8] at hv
        refine p_lets ?_
        intro s3 hs3
        rw [hv]
        exact hK _ _ _ (rS_copy h (fun k hk => (hs3 k hk).trans (hh2 k hk)))
      · intro k wo2 s2 hkn hs2
        exact hJ _ _ _ (it_le (by omega) (by omega) (fun q => absurd q (by omega)) (fun _ => hs2))
    · rw [e1, iPN_n2 e3] at hK; exact hK _ _ _ h
    · rw [e1, iPN_n1 e2] at hK; exact hK _ _ _ h
  · rw [e1] at hK; exact hK _ _ _ h
