/-! pure: the text: letters, numbers -/
def lt (c : Nat) (t : Nat → Nat) (k : Nat) : Nat := if k < c then t k else 0
def fg (c : Nat) (t : Nat → Nat) (k : Nat) : Option Nat := if 48 ≤ lt c t k ∧ lt c t k ≤ 57 then some (lt c t k - 48) else none
def rdN (c : Nat) (t : Nat → Nat) (k e : Nat) : Option (Nat × Nat) := match fg c t k with
  | none => none
  | some a => match fg c t (k + 1) with
    | some b => if lt c t (k + 2) = e then some (10 * a + b, k + 3) else none
    | none => if lt c t (k + 1) = e then some (a, k + 2) else none
theorem fg_lt {c : Nat} {t : Nat → Nat} {k a : Nat} (h : fg c t k = some a) : a < 10 ∧ k < c ∧ lt c t k = a + 48 := by
  unfold fg at h
  split at h
  · rename_i q
    cases h
    refine ⟨by omega, ?_, by omega⟩
    unfold lt at q
    split at q
    · assumption
    · omega
  · cases h
theorem rdN_s {c : Nat} {t : Nat → Nat} {k e v k' : Nat} (he : 0 < e) (h : rdN c t k e = some (v, k')) : v < 100 ∧ k < k' ∧ k' ≤ c := by
  have hlt : ∀ j, lt c t j = e → j < c := by
    intro j q
    unfold lt at q
    split at q
    · assumption
    · omega
  unfold rdN at h
  split at h
  · cases h
  · rename_i a ha
    have h1 := fg_lt ha
    split at h
    · rename_i b hb
      have h2 := fg_lt hb
      split at h
      · rename_i q
        cases h
        have := hlt _ q
        exact ⟨by omega, by omega, by omega⟩
      · cases h
    · split at h
      · rename_i q
        cases h
        have := hlt _ q
        exact ⟨by omega, by omega, by omega⟩
      · cases h
theorem p_letterAt {len : Int32} {ls : Nat → Int32} {c : Nat} {t : Nat → Nat} {k : Nat} {K : Int32 → Prop} (h : rX len ls c t) (hk : k < 1000) (hK : K (nI (lt c t k))) : wpX6_letterAt len ls (nI k) K := by
  obtain ⟨h1, h2, h3⟩ := h
  unfold wpX6_letterAt
  unfold lt at hK
  rw [h1]
  refine it_le (by omega) (by omega) (fun y => ?_) (fun y => ?_)
  · rw [if_neg (by omega)] at hK; exact hK
  · rw [if_pos y] at hK
    exact p_at (by omega) (by decide) (by rw [h3 k y]; exact hK)
theorem lt_lt {c : Nat} {t : Nat → Nat} (hV : XV c t) (k : Nat) : lt c t k < 127 := by
  unfold lt
  split
  · rename_i q; have := hV k q; omega
  · omega
theorem p_figureAt {len : Int32} {ls : Nat → Int32} {c : Nat} {t : Nat → Nat} {k : Nat} {K : Int32 → Prop} (h : rX len ls c t) (hV : XV c t) (hk : k < 1000) (hy : ∀ a, fg c t k = some a → K (nI a)) (hn : fg c t k = none → K (-1)) : wpX6_figureAt len ls (nI k) K := by
  have hl := lt_lt hV k
  unfold wpX6_figureAt
  refine p_letterAt h hk ?_
  refine p_within (lo := 48) (hi := 57) (by omega) (by omega) (fun j e => ?_) (fun e => ?_)
  · have := rx_yes (by omega) e
    have h3 := rx_some e
    first
    | refine i1 ?_
    | skip
    rw [show (48 : Int32) = nI 48 from rfl, pk_sub (by omega)]
    refine hy _ ?_
    unfold fg
    rw [if_pos (by omega)]
  · have hno : ¬ (48 ≤ lt c t k ∧ lt c t k ≤ 57) := by
      intro q
      have := rx_no (by omega) q.1 e
      omega
    first
    | refine i0 ?_
    | skip
    refine hn ?_
    unfold fg
    rw [if_neg hno]
theorem p_letterAt9 {len : Int32} {ls : Nat → Int32} {c : Nat} {t : Nat → Nat} {k : Nat} {K : Int32 → Prop} (h : rX len ls c t) (hk : k < 1000) (hK : K (if k < c then nI (lt c t k) else -1)) : wpX9_letterAt len ls (nI k) K := by
  obtain ⟨h1, h2, h3⟩ := h
  unfold wpX9_letterAt
  rw [h1]
  refine it_le (by omega) (by omega) (fun y => ?_) (fun y => ?_)
  · rw [if_neg (by omega)] at hK; exact hK
  · rw [if_pos y] at hK
    unfold lt at hK
    rw [if_pos y, ← h3 k y] at hK
    rw [nI_clamp (by omega)]
    exact ⟨vl _ _ (by omega) (by omega), hK⟩
theorem p_isFigure9 {c : Nat} {t : Nat → Nat} {k : Nat} {K : Int32 → Prop} (hV : XV c t) (hy : ∀ a, fg c t k = some a → K 1) (hn : fg c t k = none → K 0) : wpX9_isFigure (if k < c then nI (lt c t k) else -1) K := by
  have hl := lt_lt hV k
  unfold wpX9_isFigure
  by_cases y : k < c
  · rw [if_pos y]
    refine p_in9 (lo := 48) (hi := 57) (by omega) (by omega) (fun j e => ⟨Or.inr rfl, ?_⟩) (fun e => ⟨Or.inl rfl, ?_⟩)
    · have := rx_yes (by omega) e
      have h3 := rx_some e
      refine hy (lt c t k - 48) ?_
      unfold fg
      rw [if_pos (by omega)]
    · refine hn ?_
      unfold fg
      rw [if_neg]
      intro q
      have := rx_no (by omega) q.1 e
      omega
  · rw [if_neg y]
    have : fg c t k = none := by
      unfold fg lt
      rw [if_neg y]
      rfl
    have hk := hn this
    unfold wpX9_in
    rw [if_pos (show (-1 : Int32) < 48 by decide)]
    exact ⟨Or.inl rfl, hk⟩
theorem p_number9 {len : Int32} {ls : Nat → Int32} {c : Nat} {t : Nat → Nat} {k e : Nat} {lo hi : Int32} {Rg : Nat → Prop} {K : Int32 → Int32 → Prop} (h : rX len ls c t) (hV : XV c t) (hk : k < 900) (he : 0 < e) (he2 : e < 127) (hin : ∀ v, v < 100 → ∀ K : Int32 → Prop, (Rg v → K 1) → (¬ Rg v → K 0) → wpX9_in (nI v) lo hi K)
    (hy : ∀ v k', rdN c t k e = some (v, k') → Rg v → K (nI v) (nI k')) (hn : (∀ v k', rdN c t k e = some (v, k') → ¬ Rg v) → ∀ a, K (-1) a) : wpX9_number len (nI k) ls lo hi (nI e) K := by
  unfold wpX9_number
  refine p_letterAt9 h (by omega) ?_
  refine p_isFigure9 hV (fun a ea => i1 ?_) (fun ea => i0 (hn (fun v k' q => ?_) _))
  · have ha := fg_lt ea
    refine p_letterAt9 h (by omega) ?_
    rw [if_pos ha.2.1, ha.2.2]
    intro x4 e4
    rw [show (48 : Int32) = nI 48 from rfl, pk_sub (by omega), Nat.add_sub_cancel] at e4
    subst e4
    rw [nI_1]
    refine p_letterAt9 h (by omega) ?_
    have last : ∀ v j, v < 100 → j < 950 → (lt c t j = e → rdN c t k e = some (v, j + 1)) → (lt c t j ≠ e → rdN c t k e = none) → (wpX9_letterAt len ls (nI j) (fun r_9 => (∀ J109 : Int32 → Prop, (∀ (v_10 : Int32), (if v_10 = 0 then K (-1) (nI j + 1) else K (nI v) (nI j + 1)) → J109 v_10) → (∀ J108 : Prop, (J109 0 → J108) → (if r_9 = nI e then (wpX9_in (nI v) lo hi (fun (r_11 : Int32) => (if r_11 = 0 then J108 else J109 1))) else J108))))) := by
      intro v j hv hj h1 h2
      refine p_letterAt9 h (by omega) ?_
      intro J109 h109 J108 h108
      have bad : (∀ v k', rdN c t k e = some (v, k') → ¬ Rg v) → J108 := fun q => h108 (h109 _ (i0 (hn q _)))
      have hl := lt_lt hV j
      have eqv : (if j < c then nI (lt c t j) else (-1 : Int32)) = nI e ↔ lt c t j = e := by
        by_cases y : j < c
        · rw [if_pos y]
          exact nI_eq (by omega) (by omega)
        · rw [if_neg y]
          constructor
          · intro z
            have := congrArg Int32.toInt z
            rw [nI_toInt (by omega), show (-1 : Int32).toInt = -1 by decide] at this
            omega
          · intro z
            unfold lt at z
            rw [if_neg y] at z
            omega
      by_cases y : lt c t j = e
      · rw [if_pos (eqv.mpr y)]
        have hr := h1 y
        refine hin v hv _ (fun q => i1 (h109 _ (i1 ?_))) (fun q => i0 (bad (fun v' k' z => ?_)))
        · rw [nI_1]
          exact hy v (j + 1) hr q
        · rw [hr] at z
          cases z
          exact q
      · rw [if_neg (fun z => y (eqv.mp z))]
        refine bad (fun v' k' z => ?_)
        rw [h2 y] at z
        cases z
    refine p_isFigure9 hV (fun b eb => ?_) (fun eb => ?_)
    · have hb := fg_lt eb
      intro J82 h82
      refine i1 ?_
      refine p_letterAt9 h (by omega) ?_
      rw [if_pos hb.2.1, hb.2.2]
      intro x13 e13
      rw [m10, nI_add, show (48 : Int32) = nI 48 from rfl, pk_sub (by omega), show 10 * a + (b + 48) - 48 = 10 * a + b by omega] at e13
      subst e13
      refine h82 _ _ ?_
      rw [nI_1]
      refine last (10 * a + b) (k + 1 + 1) (by omega) (by omega) (fun q => ?_) (fun q => ?_)
      · unfold rdN
        rw [ea]
        dsimp only
        rw [eb]
        dsimp only
        rw [if_pos q]
      · unfold rdN
        rw [ea]
        dsimp only
        rw [eb]
        dsimp only
        rw [if_neg q]
    · intro J82 h82
      refine i0 ?_
      refine h82 _ _ ?_
      refine last a (k + 1) (by omega) (by omega) (fun q => ?_) (fun q => ?_)
      · unfold rdN
        rw [ea]
        dsimp only
        rw [eb]
        dsimp only
        rw [if_pos q]
      · unfold rdN
        rw [ea]
        dsimp only
        rw [eb]
        dsimp only
        rw [if_neg q]
  · unfold rdN at q
    rw [ea] at q
    cases q
