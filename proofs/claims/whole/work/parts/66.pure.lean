/-! pure: homeless -/
def fd (Q : Nat → Bool) : Nat → Nat
  | 0 => 0
  | n + 1 => if fd Q n < n then fd Q n else if Q n then n else n + 1
theorem fd_le (Q : Nat → Bool) : ∀ n, fd Q n ≤ n := by
  intro n
  induction n with
  | zero => exact Nat.le_refl 0
  | succ n ih => unfold fd; split <;> (try split) <;> omega
theorem fd_t {Q : Nat → Bool} : ∀ {n}, fd Q n < n → Q (fd Q n) = true := by
  intro n
  induction n with
  | zero => intro h; exact absurd h (by omega)
  | succ n ih =>
    intro h
    unfold fd at h ⊢
    split
    · rename_i h1; exact ih h1
    · split
      · rename_i h2; exact h2
      · rename_i h1 h2; rw [if_neg h1, if_neg h2] at h; omega
theorem fd_f {Q : Nat → Bool} : ∀ {n k}, k < fd Q n → Q k = false := by
  intro n
  induction n with
  | zero => intro k h; exact absurd h (by simp [fd])
  | succ n ih =>
    intro k h
    have hle := fd_le Q n
    unfold fd at h
    split at h
    · exact ih h
    · split at h
      · exact ih (by omega)
      · rename_i h1 h2
        rcases Nat.lt_or_ge k n with z | z
        · exact ih (by omega)
        · rw [show k = n by omega]
          cases e : Q n with
          | false => rfl
          | true => exact absurd e h2
theorem fd_eq {Q : Nat → Bool} {n k : Nat} (hk : k ≤ n) (h1 : ∀ j, j < k → Q j = false) (h2 : k < n → Q k = true) : fd Q n = k := by
  have hle := fd_le Q n
  rcases Nat.lt_trichotomy (fd Q n) k with z | z | z
  · have := fd_t (Q := Q) (n := n) (by omega)
    rw [h1 _ z] at this
    cases this
  · exact z
  · have := fd_f z
    rw [h2 (by omega)] at this
    cases this
def lowB (b : Nat) : Nat := if b % 2 = 1 then 0 else if b / 2 % 2 = 1 then 1 else if b / 4 % 2 = 1 then 2 else if b / 8 % 2 = 1 then 3 else if b / 16 % 2 = 1 then 4 else if b / 32 % 2 = 1 then 5 else if b / 64 % 2 = 1 then 6 else 7
theorem lowB_t : ∀ b, b < 256 → b ≠ 0 → b.testBit (lowB b) = true ∧ lowB b < 8 := by decide +kernel
theorem lowB_f : ∀ b, b < 256 → ∀ k, k < 8 → k < lowB b → b.testBit k = false := by decide +kernel
theorem tst_bit {b k : Nat} (hb : b < 256) (hk : k < 8) : (nI b &&& (1 <<< (nI k &&& 31)) = 0) ↔ b.testBit k = false := by
  rw [sh1 k hk, nx_and, and_bit]
  have : 2 ^ k < 2 ^ 8 := Nat.pow_lt_pow_right (by decide) hk
  have hp : 0 < 2 ^ k := Nat.two_pow_pos k
  cases b.testBit k with
  | true =>
    rw [if_pos rfl, show (0 : Int32) = nI 0 from rfl, nI_eq (by omega) (by omega)]
    constructor
    · intro h; omega
    · intro h; cases h
  | false => simp; rfl
theorem p_lowest {b : Nat} {K : Int32 → Prop} (hb : b < 256) (h0 : b ≠ 0) (h : K (nI (lowB b))) : wpX1_lowest (nI b) K := by
  have hl := lowB_t b hb h0
  unfold wpX1_lowest
  intro J hJ
  refine kloop (J := fun k => J (nI k)) (N := lowB b) ?_ ?_
  · refine hJ _ (it_le (a := 8) (by omega) (by omega) (fun q => absurd q (by omega)) (fun _ => ?_))
    rw [if_neg (fun z => by rw [(tst_bit hb hl.2).mp z] at hl; exact absurd hl.1 (by decide))]
    exact h
  · intro k hk hn
    refine hJ _ (it_le (a := 8) (by omega) (by omega) (fun q => absurd q (by omega)) (fun _ => ?_))
    rw [if_pos ((tst_bit hb (by omega)).mpr (lowB_f b hb k (by omega) hk)), nI_1]
    exact hn
/-- who is without a bed on day k + 1, of the first p persons -/
def hoW (P : aP) (w : aW) (st : aT) (p k : Nat) : Int32 := woP P w (daysT P w st k) p
def hoQ (P : aP) (w : aW) (st : aT) (p k : Nat) : Bool := decide (hoW P w st p k ≠ -4)
def hoF (P : aP) (w : aW) (st : aT) (p : Nat) : Nat := fd (hoQ P w st p) 40
theorem hoW_s {P : aP} {w : aW} {st : aT} {p k : Nat} (hp : p < Pnp P) : hoW P w st (p + 1) k = woS (hoW P w st p k) p (Dp P w p (itS (Dp P w p) (st p) k)).2 := by
  show woS (woP P w (daysT P w st k) p) p (Dp P w p (daysT P w st k p)).2 = _
  have e : daysT P w st k p = itS (Dp P w p) (st p) k := if_pos hp
  rw [e]
  rfl
theorem ne4 {x : Nat} (h : x < 100) : nI x ≠ -4 := by
  intro e
  have := congrArg Int32.toInt e
  rw [nI_toInt (by omega)] at this
  have e4 : (-4 : Int32).toInt = -4 := by decide
  omega
def aHomeless (P : aP) (w : aW) (st : aT) (x : Int32) : Int32 := match rx 0 1 x with
  | some a => if hoF P w st (Pnp P) < 40 then (if a = 0 then hoW P w st (Pnp P) (hoF P w st (Pnp P)) else nI (hoF P w st (Pnp P) + 1)) else -4
  | none => -1
theorem p_fH {P : aP} {w : aW} {st : aT} {np nn q o1 hk hb hf : Int32} {hw : Int64} {hs kinds beds foods pu pe f : Nat → Int32} {rows : Nat → Int64} {K : Int32 → Int32 → Int32 → Int32 → Int32 → Int32 → Int64 → (Nat → Int32) → Prop} (hP : PV1 P) (hR : rPt P np nn q kinds beds foods pu pe) (hwr : rW rows w) (h : rD f st) (hS : SV P w st) {F : Nat → Nat} (hfle : ∀ p, F p ≤ 40) (hft : ∀ p, F p < 40 → hoQ P w st p (F p) = true) (hff : ∀ p k, k < F p → hoQ P w st p k = false) (hfe : ∀ p k, k ≤ 40 → (∀ j, j < k → hoQ P w st p j = false) → (k < 40 → hoQ P w st p k = true) → F p = k)
    (hK0 : ¬ F (Pnp P) < 40 → ∀ o a b c d e g, K 0 o a b c d e g)
    (hK1 : F (Pnp P) < 40 → ∀ b c d e g, K 1 (hoW P w st (Pnp P) (F (Pnp P))) (nI (F (Pnp P) + 1)) b c d e g) : wpX1_findHomeless o1 np nn q kinds beds foods pu pe rows f hk hb hf hw hs K := by
  have h6 := hP.1.1
  unfold wpX1_findHomeless
  intro J hJ
  suffices key : ∀ o a b c d g, (F 0 < 40 → o = hoW P w st 0 (F 0)) → J (nI 0) o (nI (F 0 + 1)) a b c d g by
    have e0 : F 0 = 40 := by
      refine hfe 0 40 (Nat.le_refl _) (fun j _ => ?_) (fun z => absurd z (by omega))
      unfold hoQ hoW woP
      simp
    rw [e0] at key
    exact key o1 hk hb hf hw hs (fun z => absurd z (by omega))
  refine kloop (J := fun p => ∀ o a b c d g, (F p < 40 → o = hoW P w st p (F p)) → J (nI p) o (nI (F p + 1)) a b c d g) (N := Pnp P) ?_ ?_
  · intro o a b c d g ho
    have hl := hfle (Pnp P)
    refine hJ _ _ _ _ _ _ _ _ ?_
    rw [hR.1]
    refine it_le (by omega) (by omega) (fun _ => ?_) (fun z => absurd z (by omega))
    refine it_lt (a := 40) (by omega) (by omega) (fun z => hK0 (by omega) _ _ _ _ _ _ _) (fun z => ?_)
    rw [ho (by omega)]
    exact hK1 (by omega) _ _ _ _ _
  · intro p hp hnx o a b c d g ho
    have hl := hfle p
    refine hJ _ _ _ _ _ _ _ _ ?_
    rw [hR.1]
    refine it_le (by omega) (by omega) (fun z => absurd z (by omega)) (fun _ => ?_)
    refine p_enter hP.1 hR hp hwr h ?_
    intro g2 hg2
    intro J2 hJ2
    have hnb : ∀ k, (Dp P w p (itS (Dp P w p) (st p) k)).2 < 256 := fun k => dayS_b hP.1.2.1
    -- the days of this person, up to the earliest one found so far
    have stay : (∀ j, j < F p → (Dp P w p (itS (Dp P w p) (st p) j)).2 = 0) → F (p + 1) = F p ∧ (F p < 40 → hoW P w st (p + 1) (F p) = hoW P w st p (F p)) := by
      intro hz
      have hq : F p < 40 → hoW P w st (p + 1) (F p) = hoW P w st p (F p) := by
        intro hlt
        have ht := hft p hlt
        have hne : hoW P w st p (F p) ≠ -4 := by
          have := of_decide_eq_true ht
          exact this
        rw [hoW_s hp]
        unfold woS
        rw [if_neg hne]
      refine ⟨hfe (p + 1) (F p) hl (fun j hj => ?_) (fun hlt => ?_), hq⟩
      · have hf := hff p j hj
        have h4 : hoW P w st p j = -4 := by
          have := of_decide_eq_false hf
          exact Decidable.not_not.mp this
        unfold hoQ
        rw [hoW_s hp, hz j hj, h4, show woS (-4) p 0 = -4 from rfl]
        decide
      · have ht := hft p hlt
        unfold hoQ
        rw [hq hlt]
        exact ht
    suffices key : ∀ g, Rp 8 g (itS (Dp P w p) (st p) 0) → (∀ j, j < 0 → (Dp P w p (itS (Dp P w p) (st p) j)).2 = 0) → J2 (nI (0 + 1)) o (nI (F p + 1)) g from key g2 hg2 (fun j hj => absurd hj (by omega))
    refine kloop (J := fun k => ∀ g, Rp 8 g (itS (Dp P w p) (st p) k) → (∀ j, j < k → (Dp P w p (itS (Dp P w p) (st p) j)).2 = 0) → J2 (nI (k + 1)) o (nI (F p + 1)) g) (N := F p) ?_ ?_
    · intro g hg hz
      refine hJ2 _ _ _ _ (it_le (by omega) (by omega) (fun _ => ?_) (fun z => absurd z (by omega)))
      obtain ⟨s1, s2⟩ := stay hz
      rw [nI_1, ← s1]
      refine hnx _ _ _ _ _ _ (fun hlt => ?_)
      rw [s1] at hlt ⊢
      rw [s2 hlt]
      exact ho hlt
    · intro k hk hkn g hg hz
      refine hJ2 _ _ _ _ (it_le (by omega) (by omega) (fun z => absurd z (by omega)) (fun _ => ?_))
      refine p_passDayP (w := w) (p := p) hP.1 hR (itS_V Dp_V (hS.2.1 p) k) (itS_Z Dp_Z (hS.2.2.1 p) k) hg ?_
      intro g3 hg3
      intro J3 hJ3
      have hbk := hnb k
      refine it_eq (b := 0) (by omega) (by omega) (fun z => ?_) (fun z => ?_)
      · refine hJ3 _ _ ?_
        rw [nI_1]
        refine hkn g3 hg3 (fun j hj => ?_)
        rcases Nat.lt_or_ge j k with y | y
        · exact hz j y
        · rw [show j = k by omega]; exact z
      · refine p_lowest hbk z ?_
        refine hJ3 _ _ ?_
        rw [m10, nI_add, nI_1]
        refine hJ2 _ _ _ _ (it_le (by omega) (by omega) (fun _ => ?_) (fun y => absurd y (by omega)))
        have hll := lowB_t _ hbk z
        have hval : hoW P w st (p + 1) k = nI (10 * p + lowB (Dp P w p (itS (Dp P w p) (st p) k)).2) := by
          have hf := hff p k hk
          have h4 : hoW P w st p k = -4 := by
            have := of_decide_eq_false hf
            exact Decidable.not_not.mp this
          rw [hoW_s hp, h4]
          unfold woS
          rw [if_pos rfl, if_neg z]
          rfl
        have hF : F (p + 1) = k := by
          refine hfe (p + 1) k (by omega) (fun j hj => ?_) (fun _ => ?_)
          · have hf := hff p j (Nat.lt_trans hj hk)
            have h4 : hoW P w st p j = -4 := by
              have := of_decide_eq_false hf
              exact Decidable.not_not.mp this
            unfold hoQ
            rw [hoW_s hp, hz j hj, h4, show woS (-4) p 0 = -4 from rfl]
            decide
          · unfold hoQ
            rw [hval]
            exact decide_eq_true (ne4 (by omega))
        rw [nI_1]
        rw [hF] at hnx
        refine hnx _ _ _ _ _ _ (fun _ => ?_)
        rw [hval]
theorem p_findHomeless {P : aP} {w : aW} {st : aT} {np nn q o1 hk hb hf : Int32} {hw : Int64} {hs kinds beds foods pu pe f : Nat → Int32} {rows : Nat → Int64} {K : Int32 → Int32 → Int32 → Int32 → Int32 → Int32 → Int64 → (Nat → Int32) → Prop} (hP : PV1 P) (hR : rPt P np nn q kinds beds foods pu pe) (hwr : rW rows w) (h : rD f st) (hS : SV P w st)
    (hK0 : ¬ hoF P w st (Pnp P) < 40 → ∀ o a b c d e g, K 0 o a b c d e g)
    (hK1 : hoF P w st (Pnp P) < 40 → ∀ b c d e g, K 1 (hoW P w st (Pnp P) (hoF P w st (Pnp P))) (nI (hoF P w st (Pnp P) + 1)) b c d e g) : wpX1_findHomeless o1 np nn q kinds beds foods pu pe rows f hk hb hf hw hs K :=
  p_fH hP hR hwr h hS (F := hoF P w st) (fun p => fd_le _ 40) (fun p h => fd_t (n := 40) h) (fun p k h => fd_f (n := 40) h) (fun p k h1 h2 h3 => fd_eq h1 h2 h3) hK0 hK1
theorem c_homeless {P : aP} {w : aW} {st : aT} {np nn q o1 o2 hk hb hf : Int32} {hw : Int64} {hs kinds beds foods pu pe f : Nat → Int32} {rows : Nat → Int64} {x : Int32} {K : Int32 → Int32 → Int32 → Int32 → Int32 → Int32 → Int64 → (Nat → Int32) → Prop} (hP : PV1 P) (hR : rPt P np nn q kinds beds foods pu pe) (hwr : rW rows w) (h : rD f st) (hS : SV P w st)
    (hK : ∀ o a b c d e g, K (aHomeless P w st x) o a b c d e g) : wpX8_homeless o1 o2 np nn q kinds beds foods pu pe rows f hk hb hf hw hs x K := by
  unfold wpX8_homeless
  unfold aHomeless at hK
  refine p_within (lo := 0) (hi := 1) (by omega) (by omega) (fun a e1 => i1 ?_) (fun e1 => i0 (by rw [e1] at hK; exact hK _ _ _ _ _ _ _))
  have h1 := rx_some e1
  rw [e1] at hK
  dsimp only at hK
  refine p_findHomeless hP hR hwr h hS (fun z => ?_) (fun z => ?_)
  · intro o a2 b c d e g
    rw [if_neg z] at hK
    exact i0 (hK _ _ _ _ _ _ _)
  · intro b c d e g
    rw [if_pos z] at hK
    refine i1 ?_
    rw [h1.2.2]
    refine it_eq (b := 0) (by omega) (by omega) (fun y => ?_) (fun y => ?_)
    · rw [if_pos y] at hK; exact hK _ _ _ _ _ _ _
    · rw [if_neg y] at hK; exact hK _ _ _ _ _ _ _
