/-! pure: out of the class -/
theorem o1_ok {P : aP} {w : aW} {st : aT} {p n t a : Nat} (h : o1 P w st p n t a = true) : okC P p a = true := by
  unfold o1 at h
  rw [Bool.and_eq_true] at h
  exact h.1
theorem o2_ok {P : aP} {w : aW} {st : aT} {p n t a b : Nat} (h : o2 P w st p n t a b = true) : a < b ∧ okC P p a = true ∧ okC P p b = true := by
  unfold o2 at h
  rw [Bool.and_eq_true, Bool.and_eq_true, Bool.and_eq_true, decide_eq_true_eq] at h
  exact ⟨h.1.1.1, h.1.1.2, h.1.2⟩
theorem b_f {x : Bool} (h : ¬ x = true) : x = false := by
  cases x with
  | true => exact absurd rfl h
  | false => rfl
theorem o1_far {P : aP} {w : aW} {st : aT} {p n t a : Nat} (h : 8 * Pnp P ≤ a) : o1 P w st p n t a = false := b_f (fun z => by have := (okC_t (o1_ok z)).1; omega)
theorem o2_far {P : aP} {w : aW} {st : aT} {p n t a b : Nat} (h : 8 * Pnp P ≤ b) : o2 P w st p n t a b = false := b_f (fun z => by have := (okC_t (o2_ok z).2.2).1; omega)
theorem o2_fara {P : aP} {w : aW} {st : aT} {p n t a b : Nat} (h : 8 * Pnp P ≤ a) : o2 P w st p n t a b = false := b_f (fun z => by have := (okC_t (o2_ok z).2.1).1; omega)
theorem p_findOut {P : aP} {w : aW} {st : aT} {p n t : Nat} {np nn q f1 f2 : Int32} {hs kinds beds foods pu pe f : Nat → Int32} {rows : Nat → Int64} {K : Int32 → Int32 → Int32 → Int32 → Int32 → Int32 → Int64 → (Nat → Int32) → Prop} (hP : PV1 P) (hR : rPt P np nn q kinds beds foods pu pe) (hwr : rW rows w) (h : rD f st) (hv : ∀ p, V (st p)) (hz : ∀ p, Z (Pnn P) (st p)) (hp : p < Pnp P) (hn : n < 8) (ht : t < 100)
    (k0 : oAway P w st p n t = true → ∀ x y a b c e g, K 0 x y a b c e g)
    (k1 : oAway P w st p n t = false → ∀ a, a < 48 → o1 P w st p n t a = true → (∀ j, j < a → o1 P w st p n t j = false) → ∀ y b c d e g, K 1 (nI (shw a)) y b c d e g)
    (k2 : oAway P w st p n t = false → (∀ a, o1 P w st p n t a = false) → ∀ a b, a < 48 → b < 48 → o2 P w st p n t a b = true → (∀ j b, j < a → o2 P w st p n t j b = false) → (∀ j, j < b → o2 P w st p n t a j = false) → ∀ c d e i g, K 2 (nI (shw a)) (nI (shw b)) c d e i g)
    (k4 : oAway P w st p n t = false → (∀ a, o1 P w st p n t a = false) → (∀ a b, o2 P w st p n t a b = false) → ∀ x y a b c e g, K (-4) x y a b c e g) : wpX1_findOut f1 f2 np nn q kinds beds foods pu pe rows f hs (nI p) (nI n) (nI t) K := by
  have h6 := hP.1.1
  have h8 := hP.1.2.1
  have hp6 : p < 6 := by omega
  unfold wpX1_findOut
  have x0 : lN (wr w p) ^^^ 0 = lN (wr w p) := by simp
  refine p_isAway (w' := w) hP hR hwr h hv hz hp hn ht x0 ?_
  intro a1 a2 a3 a4 a5
  cases e0 : oAway P w st p n t with
  | true => exact i1 (k0 e0 _ _ _ _ _ _ _)
  | false =>
    refine i0 ?_
    intro x7 e7
    rw [hR.1, m8] at e7
    subst e7
    have shown : ∀ (a : Nat) (K : Int32 → Prop), a < 48 → K (nI (shw a)) → wpX1_shown (nI a) K := by
      intro a K ha hk
      unfold wpX1_shown
      rw [show (8 : Int32) = nI 8 from rfl, pk_div (by omega) (by omega) (by omega), m10, pk_mul, pk_sub (by omega), show a - a / 8 * 8 = a % 8 by omega, nI_add]
      exact hk
    have one0 : ∀ a, a < 48 → ¬ (lg_cmp (lN (2 ^ (6 * (a % 8) + a / 8))) 0 = 0) := by
      intro a ha z
      have := (cmp0 _ (Nat.pow_lt_pow_right (by decide) (by omega))).mp z
      exact absurd this (Nat.ne_of_gt (Nat.two_pow_pos _))
    intro J28 h28
    suffices key : ∀ a1 a2 a3 a4 a5, (∀ j, j < 0 → o1 P w st p n t j = false) → J28 (nI 0) a1 a2 a3 a4 a5 from key _ _ _ _ _ (fun j hj => absurd hj (by omega))
    refine kloop (J := fun k => ∀ a1 a2 a3 a4 a5, (∀ j, j < k → o1 P w st p n t j = false) → J28 (nI k) a1 a2 a3 a4 a5) (N := 8 * Pnp P) ?_ ?_
    · intro a1 a2 a3 a4 a5 hno
      have no1 : ∀ a, o1 P w st p n t a = false := by
        intro a
        rcases Nat.lt_or_ge a (8 * Pnp P) with y | y
        · exact hno a y
        · exact o1_far y
      refine h28 _ _ _ _ _ _ (it_le (by omega) (by omega) (fun _ => ?_) (fun y => absurd y (by omega)))
      intro J83 h83
      suffices key : ∀ a1 a2 a3 a4 a5, (∀ j b, j < 0 → o2 P w st p n t j b = false) → J83 (nI 0) a1 a2 a3 a4 a5 from key _ _ _ _ _ (fun j b hj => absurd hj (by omega))
      refine kloop (J := fun k => ∀ a1 a2 a3 a4 a5, (∀ j b, j < k → o2 P w st p n t j b = false) → J83 (nI k) a1 a2 a3 a4 a5) (N := 8 * Pnp P) ?_ ?_
      · intro a1 a2 a3 a4 a5 hno2
        refine h83 _ _ _ _ _ _ (it_le (by omega) (by omega) (fun _ => k4 e0 no1 (fun a b => ?_) _ _ _ _ _ _ _) (fun y => absurd y (by omega)))
        rcases Nat.lt_or_ge a (8 * Pnp P) with y | y
        · exact hno2 a b y
        · exact o2_fara y
      · intro a ha hna a1 a2 a3 a4 a5 hno2
        refine h83 _ _ _ _ _ _ (it_le (by omega) (by omega) (fun y => absurd y (by omega)) (fun _ => ?_))
        have next : (∀ b, o2 P w st p n t a b = false) → ∀ a1 a2 a3 a4 a5, J83 (nI a + 1) a1 a2 a3 a4 a5 := by
          intro hb a1 a2 a3 a4 a5
          rw [nI_1]
          refine hna _ _ _ _ _ (fun j b hj => ?_)
          rcases Nat.lt_or_ge j a with y | y
          · exact hno2 j b y
          · rw [show j = a by omega]; exact hb b
        rw [hR.2.1]
        refine p_choice hP hp6 ha (fun eo => ?_) (fun eo => ?_)
        · intro x21 e21 J105 h105
          refine h105 _ _ _ _ _ _ ?_
          intro J176 h176
          rw [if_pos (show lg_cmp (0 : Int64) 0 = 0 by rw [lg_cmp_eq])]
          refine h176 (next (fun b => b_f (fun z => ?_)) _ _ _ _ _)
          rw [(o2_ok z).2.1] at eo
          cases eo
        · intro x21 e21
          rw [nI_1] at e21
          subst e21
          intro J105 h105
          suffices key : ∀ a1 a2 a3 a4 a5, (∀ j, j < a + 1 → o2 P w st p n t a j = false) → J105 (nI (a + 1)) a1 a2 a3 a4 a5 from key _ _ _ _ _ (fun j hj => b_f (fun z => by have := (o2_ok z).1; omega))
          refine kloopA (J := fun k => ∀ a1 a2 a3 a4 a5, (∀ j, j < k → o2 P w st p n t a j = false) → J105 (nI k) a1 a2 a3 a4 a5) (a + 1) (8 * Pnp P) (by omega) ?_ ?_
          · intro a1 a2 a3 a4 a5 hnb
            refine h105 _ _ _ _ _ _ ?_
            intro J176 h176
            rw [if_neg (one0 a (by omega))]
            refine it_le (by omega) (by omega) (fun _ => h176 (next (fun b => ?_) _ _ _ _ _)) (fun y => absurd y (by omega))
            rcases Nat.lt_or_ge b (8 * Pnp P) with y | y
            · exact hnb b y
            · exact o2_far y
          · intro b hab hb hnb a1 a2 a3 a4 a5 hno3
            refine h105 _ _ _ _ _ _ ?_
            intro J176 h176
            rw [if_neg (one0 a (by omega))]
            refine it_le (by omega) (by omega) (fun y => absurd y (by omega)) (fun _ => ?_)
            have nxb : o2 P w st p n t a b = false → ∀ a1 a2 a3 a4 a5, J105 (nI b + 1) a1 a2 a3 a4 a5 := by
              intro hb a1 a2 a3 a4 a5
              rw [nI_1]
              refine hnb _ _ _ _ _ (fun j hj => ?_)
              rcases Nat.lt_or_ge j b with y | y
              · exact hno3 j y
              · rw [show j = b by omega]; exact hb
            refine p_choice hP hp6 hb (fun eb => ?_) (fun eb => ?_)
            · intro J170 h170
              rw [if_pos (show lg_cmp (0 : Int64) 0 = 0 by rw [lg_cmp_eq])]
              refine h170 _ _ _ _ _ (nxb (b_f (fun z => ?_)) _ _ _ _ _)
              rw [(o2_ok z).2.2] at eb
              cases eb
            · intro J170 h170
              rw [if_neg (one0 b (by omega))]
              rw [← hR.2.1]
              refine p_isAway (w' := wfc (wfc w p a) p b) hP hR hwr h hv hz hp hn ht (wfc_row2 w (by omega) (by omega) (by omega)) ?_
              intro b1 b2 b3 b4 b5
              have eo2 : o2 P w st p n t a b = oAway P (wfc (wfc w p a) p b) st p n t := by
                unfold o2
                rw [decide_eq_true (show a < b by omega), eo, eb]
                rfl
              cases e2 : oAway P (wfc (wfc w p a) p b) st p n t with
              | false =>
                refine i0 (h170 _ _ _ _ _ (nxb ?_ _ _ _ _ _))
                rw [eo2, e2]
              | true =>
                refine i1 (shown a _ (by omega) (shown b _ (by omega) ?_))
                exact k2 e0 no1 a b (by omega) (by omega) (by rw [eo2, e2]) hno2 hno3 _ _ _ _ _
    · intro a ha hna a1 a2 a3 a4 a5 hno
      refine h28 _ _ _ _ _ _ (it_le (by omega) (by omega) (fun y => absurd y (by omega)) (fun _ => ?_))
      have next : o1 P w st p n t a = false → ∀ a1 a2 a3 a4 a5, J28 (nI a + 1) a1 a2 a3 a4 a5 := by
        intro hb a1 a2 a3 a4 a5
        rw [nI_1]
        refine hna _ _ _ _ _ (fun j hj => ?_)
        rcases Nat.lt_or_ge j a with y | y
        · exact hno j y
        · rw [show j = a by omega]; exact hb
      rw [hR.2.1]
      refine p_choice hP hp6 ha (fun eo => ?_) (fun eo => ?_)
      · intro J74 h74
        rw [if_pos (show lg_cmp (0 : Int64) 0 = 0 by rw [lg_cmp_eq])]
        refine h74 _ _ _ _ _ (next (b_f (fun z => ?_)) _ _ _ _ _)
        rw [o1_ok z] at eo
        cases eo
      · intro J74 h74
        rw [if_neg (one0 a (by omega))]
        rw [← hR.2.1]
        refine p_isAway (w' := wfc w p a) hP hR hwr h hv hz hp hn ht (wfc_row w (by omega)) ?_
        intro b1 b2 b3 b4 b5
        have eo1 : o1 P w st p n t a = oAway P (wfc w p a) st p n t := by
          unfold o1
          rw [eo]
          rfl
        cases e2 : oAway P (wfc w p a) st p n t with
        | false =>
          refine i0 (h74 _ _ _ _ _ (next ?_ _ _ _ _ _))
          rw [eo1, e2]
        | true =>
          refine i1 (shown a _ (by omega) ?_)
          exact k1 e0 a (by omega) (by rw [eo1, e2]) hno _ _ _ _ _ _
