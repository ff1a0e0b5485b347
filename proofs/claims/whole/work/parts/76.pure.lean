/-! pure: game, of the class -/
def wch (w : aW) (i j c : Nat) : aW := if c = 8 then w else wu w i j c
def gA (P : aP) (w : aW) (st : aT) (i j t c : Nat) : Nat := sumL (itS (Dp P (wch w i j c) j) (st j) t) (Punk P) 8
def isCh (nn c : Nat) : Prop := c = 8 ∨ c < nn
def isMl (n nn : Nat) (A : Nat → Nat) (c : Nat) : Bool := decide (∀ v, v < n → ¬ (v = 8 ∨ v < nn) ∨ A v ≤ A c)
def isM (nn : Nat) (A : Nat → Nat) (c : Nat) : Bool := decide (c = 8 ∨ c < nn) && isMl 9 nn A c
def gN (nn : Nat) (A : Nat → Nat) : Nat := nsum (fun c => bI (isM nn A c)) 9
def gF (nn : Nat) (A : Nat → Nat) : Nat := fd (isM nn A) 9
def shc (c : Nat) : Nat := if c = 8 then 9 else c
def cm (nn m : Nat) : Nat := if m < nn then m else 8
theorem isM_t {nn : Nat} {A : Nat → Nat} {c : Nat} (h : isM nn A c = true) : (c = 8 ∨ c < nn) ∧ ∀ v, v < 9 → (v = 8 ∨ v < nn) → A v ≤ A c := by
  unfold isM isMl at h
  rw [Bool.and_eq_true, decide_eq_true_eq, decide_eq_true_eq] at h
  exact ⟨h.1, fun v h1 h2 => (h.2 v h1).elim (fun z => absurd h2 z) id⟩
theorem isM_i {nn : Nat} {A : Nat → Nat} {c : Nat} (h1 : c = 8 ∨ c < nn) (h2 : ∀ v, v < 9 → (v = 8 ∨ v < nn) → A v ≤ A c) : isM nn A c = true := by
  unfold isM isMl
  rw [decide_eq_true h1, decide_eq_true (fun v hv => by
    by_cases y : v = 8 ∨ v < nn
    · exact Or.inr (h2 v hv y)
    · exact Or.inl y)]
  rfl
theorem isM_eq {nn : Nat} {A : Nat → Nat} {M : Nat} (hnn : nn ≤ 8) (hle : ∀ c, (c = 8 ∨ c < nn) → A c ≤ M) (hex : ∃ c, (c = 8 ∨ c < nn) ∧ A c = M) (c : Nat) : isM nn A c = (decide (c = 8 ∨ c < nn) && decide (A c = M)) := by
  obtain ⟨b, b1, b2⟩ := hex
  cases e : isM nn A c with
  | true =>
    have h := isM_t e
    have h2 := h.2 b (by omega) b1
    have h3 := hle c h.1
    rw [decide_eq_true h.1, decide_eq_true (show A c = M by omega)]
    rfl
  | false =>
    symm
    refine b_f (fun z => ?_)
    rw [Bool.and_eq_true, decide_eq_true_eq, decide_eq_true_eq] at z
    rw [isM_i z.1 (fun v _ hv => by have := hle v hv; omega)] at e
    cases e
theorem nsum_z {f : Nat → Nat} {a : Nat} : ∀ {b}, a ≤ b → (∀ k, a ≤ k → k < b → f k = 0) → nsum f b = nsum f a := by
  intro b
  induction b with
  | zero => intro h _; rw [show a = 0 by omega]
  | succ b ih =>
    intro h hf
    rcases Nat.lt_or_ge b a with y | y
    · rw [show a = b + 1 by omega]
    · show nsum f b + f b = _
      rw [ih y (fun k h1 h2 => hf k h1 (by omega)), hf b y (by omega)]
      rfl
theorem gN_cm {nn : Nat} {A : Nat → Nat} {M : Nat} (hnn : nn ≤ 8) (hle : ∀ c, (c = 8 ∨ c < nn) → A c ≤ M) (hex : ∃ c, (c = 8 ∨ c < nn) ∧ A c = M) : gN nn A = nsum (fun u => if A (cm nn u) = M then 1 else 0) (nn + 1) := by
  have e := isM_eq hnn hle hex
  unfold gN
  show nsum (fun c => bI (isM nn A c)) 8 + bI (isM nn A 8) = nsum _ nn + (if A (cm nn nn) = M then 1 else 0)
  rw [nsum_z (a := nn) hnn (fun k h1 h2 => by rw [e k, decide_eq_false (by omega)]; rfl)]
  congr 1
  · refine nsum_congr (fun k hk => ?_)
    rw [e k, decide_eq_true (Or.inr hk), show cm nn k = k from if_pos hk]
    by_cases y : A k = M
    · rw [decide_eq_true y, if_pos y]; rfl
    · rw [decide_eq_false y, if_neg y]; rfl
  · rw [e 8, decide_eq_true (Or.inl rfl), show cm nn nn = 8 from if_neg (by omega)]
    by_cases y : A 8 = M
    · rw [decide_eq_true y, if_pos y]; rfl
    · rw [decide_eq_false y, if_neg y]; rfl
theorem gF_cm {nn : Nat} {A : Nat → Nat} {M f : Nat} (hnn : nn ≤ 8) (hle : ∀ c, (c = 8 ∨ c < nn) → A c ≤ M) (hf : f < nn + 1) (h1 : A (cm nn f) = M) (h2 : ∀ u, u < f → A (cm nn u) ≠ M) : gF nn A = cm nn f := by
  have hcm : cm nn f = 8 ∨ cm nn f < nn := by unfold cm; split <;> omega
  have e := isM_eq hnn hle ⟨cm nn f, hcm, h1⟩
  have h8 : cm nn f ≤ 8 := by omega
  unfold gF
  refine fd_eq (by omega) (fun j hj => ?_) (fun _ => ?_)
  · rw [e j]
    refine b_f (fun z => ?_)
    rw [Bool.and_eq_true, decide_eq_true_eq, decide_eq_true_eq] at z
    have hj8 : j < nn := by omega
    have hjf : j < f := by
      rcases Nat.lt_or_ge f nn with y | y
      · rw [show cm nn f = f from if_pos y] at hj; exact hj
      · omega
    refine h2 j hjf ?_
    rw [show cm nn j = j from if_pos hj8]
    exact z.2
  · rw [e _, decide_eq_true hcm, decide_eq_true h1]
    rfl
theorem p_findWorst {P : aP} {w : aW} {st : aT} {i j t : Nat} {np nn q f1 hk hb hf : Int32} {hw : Int64} {hs kinds beds foods pu pe f : Nat → Int32} {rows : Nat → Int64} {K : Int32 → Int32 → Int32 → Int32 → Int32 → Int64 → (Nat → Int32) → Prop} (hP : PV1 P) (hR : rPt P np nn q kinds beds foods pu pe) (hwr : rW rows w) (h : rD f st) (hv : ∀ p, V (st p)) (hz : ∀ p, Z (Pnn P) (st p)) (hi : i < Pnp P) (hj : j < Pnp P) (ht : t < 100)
    (hK : ∀ a b c e g, K (nI (gN (Pnn P) (gA P w st i j t))) (nI (shc (gF (Pnn P) (gA P w st i j t)))) a b c e g) : wpX1_findWorst f1 nn q kinds beds foods pu pe rows f hk hb hf hw hs (nI i) (nI j) (nI t) K := by
  have h6 := hP.1.1
  have h8 := hP.1.2.1
  have hu := hP.1.2.2.2.2.2.2.1
  obtain ⟨A, eA⟩ : ∃ A, gA P w st i j t = A := ⟨_, rfl⟩
  rw [eA] at hK
  have hA : ∀ c, A c ≤ 160 := by
    intro c
    rw [← eA]
    have := sumL_le (st := itS (Dp P (wch w i j c) j) (st j) t) (row := Punk P) (b := 20) (fun k => by have := hu k; omega) 8
    exact this
  unfold wpX1_findWorst
  intro J hJ
  suffices key : ∀ v1 v2 o a1 a2 a3 a4 a5, ((0 = 0 ∧ v1 = 0 ∧ v2 = -1) ∨ ∃ M b, b < 0 ∧ A (cm (Pnn P) b) = M ∧ (∀ u, u < 0 → A (cm (Pnn P) u) ≤ M) ∧ (∀ u, u < b → A (cm (Pnn P) u) ≠ M) ∧ v2 = nI M ∧ v1 = nI (nsum (fun u => if A (cm (Pnn P) u) = M then 1 else 0) 0) ∧ o = nI (shc (cm (Pnn P) b))) → J v1 v2 (nI 0) o a1 a2 a3 a4 a5 from key 0 (-1) f1 hk hb hf hw hs (Or.inl ⟨rfl, rfl, rfl⟩)
  refine kloop (J := fun m => ∀ v1 v2 o a1 a2 a3 a4 a5, ((m = 0 ∧ v1 = 0 ∧ v2 = -1) ∨ ∃ M b, b < m ∧ A (cm (Pnn P) b) = M ∧ (∀ u, u < m → A (cm (Pnn P) u) ≤ M) ∧ (∀ u, u < b → A (cm (Pnn P) u) ≠ M) ∧ v2 = nI M ∧ v1 = nI (nsum (fun u => if A (cm (Pnn P) u) = M then 1 else 0) m) ∧ o = nI (shc (cm (Pnn P) b))) → J v1 v2 (nI m) o a1 a2 a3 a4 a5) (N := Pnn P + 1) ?_ ?_
  · intro v1 v2 o a1 a2 a3 a4 a5 hinv
    refine hJ _ _ _ _ _ _ _ _ _ ?_
    rw [hR.2.1]
    refine it_lt (by omega) (by omega) (fun _ => ?_) (fun y => absurd y (by omega))
    rcases hinv with ⟨y, _⟩ | ⟨M, b, hb1, hb2, hb3, hb4, e2, e1, eo⟩
    · omega
    · have hle : ∀ c, (c = 8 ∨ c < Pnn P) → A c ≤ M := by
        intro c hc
        rcases hc with y | y
        · have := hb3 (Pnn P) (by omega)
          rw [show cm (Pnn P) (Pnn P) = 8 from if_neg (by omega)] at this
          rw [y]; exact this
        · have := hb3 c (by omega)
          rw [show cm (Pnn P) c = c from if_pos y] at this
          exact this
      have hcm : cm (Pnn P) b = 8 ∨ cm (Pnn P) b < Pnn P := by unfold cm; split <;> omega
      rw [e1, eo, ← gN_cm h8 hle ⟨_, hcm, hb2⟩, ← gF_cm h8 hle hb1 hb2 hb4]
      exact hK _ _ _ _ _
  · intro m hm hnx v1 v2 o a1 a2 a3 a4 a5 hinv
    refine hJ _ _ _ _ _ _ _ _ _ ?_
    have eNN := hR.2.1
    refine (show ∀ {A B : Prop}, B → (if nn < nI m then A else B) from fun hb => by rw [eNN, if_neg (nI_nlt (by omega) (by omega))]; exact hb) ?_
    refine p_enter hP.1 hR hj hwr h ?_
    intro g hg
    intro J63 h63
    have go : ∀ hw2, hw2 = lN (wr (wch w i j (cm (Pnn P) m)) j) → J63 hw2 := by
      intro hw2 ehw
      refine h63 _ ?_
      rw [ehw]
      refine p_hpassDays (w := wch w i j (cm (Pnn P) m)) (p := j) hP.1 hR ht (hv j) (hz j) hg ?_
      intro g2 hg2
      have hvv := itS_V (Dp_V (P := P) (w := wch w i j (cm (Pnn P) m)) (p := j)) (hv j) t
      have hzz := itS_Z (Dp_Z (P := P) (w := wch w i j (cm (Pnn P) m)) (p := j)) (hz j) t
      refine p_together hvv hg2 (fun k hk hne => hR.2.2.2.2.2.2.1 k (by
        rcases Nat.lt_or_ge k (Pnn P) with y | y
        · exact y
        · exact absurd (hzz k y) hne)) ?_
      rw [show sumL (itS (Dp P (wch w i j (cm (Pnn P) m)) j) (st j) t) (Punk P) 8 = A (cm (Pnn P) m) by rw [← eA]; rfl]
      have hx := hA (cm (Pnn P) m)
      intro J125 h125
      -- a new most one
      have new : (∀ u, u < m → A (cm (Pnn P) u) < A (cm (Pnn P) m)) → (∀ J122 : Int32 → Prop, (∀ v_23 : Int32, J125 0 (nI (A (cm (Pnn P) m))) v_23 → J122 v_23) → (if nn ≤ nI m then J122 9 else J122 (nI m))) := by
        intro hlt J122 h122
        have fin : ∀ o2, o2 = nI (shc (cm (Pnn P) m)) → J122 o2 := by
          intro o2 eo2
          refine h122 _ (h125 _ _ _ ?_)
          intro J135 h135
          rw [if_pos rfl]
          refine h135 _ ?_
          rw [nI_1]
          refine hnx _ _ _ _ _ _ _ _ (Or.inr ⟨A (cm (Pnn P) m), m, by omega, rfl, fun u hu2 => ?_, fun u hu2 => by have := hlt u hu2; omega, rfl, ?_, eo2⟩)
          · rcases Nat.lt_or_ge u m with y | y
            · have := hlt u y; omega
            · rw [show u = m by omega]; exact Nat.le_refl _
          · show (0 : Int32) + 1 = nI (nsum _ m + (if A (cm (Pnn P) m) = A (cm (Pnn P) m) then 1 else 0))
            rw [if_pos rfl, nsum_z (a := 0) (Nat.zero_le m) (fun k _ hk => if_neg (by have := hlt k hk; omega))]
            rfl
        rw [eNN]
        refine it_le (by omega) (by omega) (fun y => fin _ ?_) (fun y => fin _ ?_)
        · rw [show cm (Pnn P) m = 8 from if_neg (by omega)]; rfl
        · rw [show cm (Pnn P) m = m from if_pos y]
          unfold shc
          rw [if_neg (by omega)]
      rcases hinv with ⟨m0, _, e2⟩ | ⟨M, b, hb1, hb2, hb3, hb4, e2, e1, eo⟩
      · have : ¬ nI (A (cm (Pnn P) m)) ≤ v2 := by
          intro z
          rw [e2] at z
          have z2 := Int32.le_iff_toInt_le.mp z
          rw [nI_toInt (by omega), show (-1 : Int32).toInt = -1 by decide] at z2
          omega
        rw [if_neg this]
        exact new (fun u hu2 => by omega)
      · have hMb : M ≤ 160 := by rw [← hb2]; exact hA _
        have new2 := new
        rw [e2]
        refine it_le (by omega) (by omega) (fun y => ?_) (fun y => new2 (fun u hu2 => by have := hb3 u hu2; omega))
        refine h125 _ _ _ ?_
        intro J135 h135
        refine it_eq (by omega) (by omega) (fun z => ?_) (fun z => ?_)
        · refine h135 _ ?_
          rw [nI_1]
          refine hnx _ _ _ _ _ _ _ _ (Or.inr ⟨M, b, by omega, hb2, fun u hu2 => ?_, hb4, rfl, ?_, eo⟩)
          · rcases Nat.lt_or_ge u m with y2 | y2
            · exact hb3 u y2
            · rw [show u = m by omega]; exact y
          · rw [e1, nI_1]
            show _ = nI (nsum _ m + (if A (cm (Pnn P) m) = M then 1 else 0))
            rw [if_pos z]
        · refine h135 _ ?_
          rw [nI_1]
          refine hnx _ _ _ _ _ _ _ _ (Or.inr ⟨M, b, by omega, hb2, fun u hu2 => ?_, hb4, rfl, ?_, eo⟩)
          · rcases Nat.lt_or_ge u m with y2 | y2
            · exact hb3 u y2
            · rw [show u = m by omega]; exact y
          · rw [e1]
            show _ = nI (nsum _ m + (if A (cm (Pnn P) m) = M then 1 else 0))
            rw [if_neg z]
            rfl
    refine (show ∀ {A B : Prop}, (if nI (Pnn P) ≤ nI m then A else B) → (if nn ≤ nI m then A else B) from fun hb => by rw [eNN]; exact hb) ?_
    refine it_le (by omega) (by omega) (fun y => go _ ?_) (fun y => ?_)
    · rw [show cm (Pnn P) m = 8 from if_neg (by omega)]; rfl
    · refine p_bit (by omega) (by omega) (go _ ?_)
      rw [show cm (Pnn P) m = m from if_pos y]
      unfold wch
      rw [if_neg (by omega), wb_or (Nat.lt_of_lt_of_le (wr_lt w j) (by decide)) (Nat.lt_of_lt_of_le (two48 (by omega) (by omega)) (by decide)), ← wr_wu w i j m (by omega) (by omega)]
