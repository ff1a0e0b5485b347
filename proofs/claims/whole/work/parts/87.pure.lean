/-! pure: the text: what an item tells, of the class -/
def tlP (P : aP) (a b f : Nat) : aP := (Pnp P + 1, Pnn P, Pq P, uA (Pkind P) (Pnp P) a, uA (Pbed P) (Pnp P) (if a = 1 then 2 * b else b), uA (Pfood P) (Pnp P) f, Punk P, Peat P)
def tlN (P : aP) (a b : Nat) : aP := (Pnp P, Pnn P + 1, Pq P, Pkind P, Pbed P, Pfood P, uA (Punk P) (Pnn P) a, uA (Peat P) (Pnn P) b)
def tlQ (P : aP) (a : Nat) : aP := (Pnp P, Pnn P, a, Pkind P, Pbed P, Pfood P, Punk P, Peat P)
abbrev okP (P : aP) (a b f : Nat) : Prop := Pnp P < 6 ∧ a ≤ 4 ∧ b ≤ 5 ∧ f ≤ 30
abbrev okN (P : aP) (a b : Nat) : Prop := Pnn P < 8 ∧ a ≤ 20 ∧ b ≤ 9
abbrev okQ (a : Nat) : Prop := 1 ≤ a ∧ a ≤ 20
abbrev okW (P : aP) (w : aW) (i j n : Nat) : Prop := i < Pnp P ∧ j < Pnp P ∧ i ≠ j ∧ n < Pnn P ∧ (w i j n = true ∨ tot w < 12)
theorem PV.tlP {P : aP} {a b f : Nat} (h : PV P) (o : okP P a b f) : PV (tlP P a b f) := by
  obtain ⟨h1, h2, h3, h4, h5, h6, h7, h8⟩ := h
  obtain ⟨o1, o2, o3, o4⟩ := o
  refine ⟨show Pnp P + 1 ≤ 6 by omega, h2, h3, fun p => ?_, fun p => ?_, fun p => ?_, h7, h8⟩
  · show uA (Pkind P) (Pnp P) a p < 5
    unfold uA; split
    · omega
    · exact h4 p
  · show uA (Pbed P) (Pnp P) (if a = 1 then 2 * b else b) p < 11
    unfold uA; split
    · split <;> omega
    · exact h5 p
  · show uA (Pfood P) (Pnp P) f p < 31
    unfold uA; split
    · omega
    · exact h6 p
theorem PV.tlN {P : aP} {a b : Nat} (h : PV P) (o : okN P a b) : PV (tlN P a b) := by
  obtain ⟨h1, h2, h3, h4, h5, h6, h7, h8⟩ := h
  obtain ⟨o1, o2, o3⟩ := o
  refine ⟨h1, show Pnn P + 1 ≤ 8 by omega, h3, h4, h5, h6, fun p => ?_, fun p => ?_⟩
  · show uA (Punk P) (Pnn P) a p < 21
    unfold uA; split
    · omega
    · exact h7 p
  · show uA (Peat P) (Pnn P) b p < 10
    unfold uA; split
    · omega
    · exact h8 p
theorem PV.tlQ {P : aP} {a : Nat} (h : PV P) (o : okQ a) : PV (tlQ P a) := by
  obtain ⟨h1, h2, h3, h4, h5, h6, h7, h8⟩ := h
  obtain ⟨o1, o2⟩ := o
  exact ⟨h1, h2, ⟨o1, show a < 21 by omega⟩, h4, h5, h6, h7, h8⟩
theorem WV_P {P : aP} {w : aW} {a b f : Nat} (h : WV P w) : WV (tlP P a b f) w := ⟨fun i j n e => by
  have := h.1 i j n e
  exact ⟨show i < Pnp P + 1 by omega, show j < Pnp P + 1 by omega, this.2.2.1, this.2.2.2⟩, h.2⟩
theorem WV_N {P : aP} {w : aW} {a b : Nat} (h : WV P w) : WV (tlN P a b) w := ⟨fun i j n e => by
  have := h.1 i j n e
  exact ⟨this.1, this.2.1, this.2.2.1, show n < Pnn P + 1 by omega⟩, h.2⟩
theorem WV_Q {P : aP} {w : aW} {a : Nat} (h : WV P w) : WV (tlQ P a) w := h
theorem p_wn {a lo hi : Nat} {K : Int32 → Prop} (ha : a < 2 ^ 31) (h1 : lo < 2 ^ 31) (h2 : hi < 2 ^ 31) (hy : lo ≤ a ∧ a ≤ hi → K 1) (hn : ¬ (lo ≤ a ∧ a ≤ hi) → K 0) : wpX8_within (nI a) (nI lo) (nI hi) K := by
  refine p_within h1 h2 (fun j e => hy ?_) (fun e => hn (fun q => ?_))
  · have := rx_yes ha e
    have := rx_some e
    omega
  · have := rx_no ha q.1 e
    omega
theorem p_wn1 {a N : Nat} {K : Int32 → Prop} (ha : a < 2 ^ 31) (h2 : N < 2 ^ 31) (hy : a < N → K 1) (hn : ¬ a < N → K 0) : wpX8_within (nI a) 0 (nI N - 1) K := by
  cases N with
  | zero =>
    have := hn (by omega)
    unfold wpX8_within
    rw [if_neg (nI_pos ha), if_pos]
    · exact this
    · rw [Int32.lt_iff_toInt_lt, nI_toInt ha, show (nI 0 - 1 : Int32).toInt = -1 by decide]
      omega
  | succ N =>
    rw [nI_pred]
    exact p_wn (lo := 0) ha (by omega) (by omega) (fun q => hy (by omega)) (fun q => hn (by omega))
theorem p_tellP {P : aP} {a b f : Nat} {kinds beds foods : Nat → Int32} {K : Int32 → Int32 → (Nat → Int32) → (Nat → Int32) → (Nat → Int32) → Prop} (h6 : Pnp P ≤ 6) (ha : a < 100) (hb : b < 100) (hf : f < 100) (h1 : Rp (Pnp P) kinds (Pkind P)) (h2 : Rp (Pnp P) beds (Pbed P)) (h3 : Rp (Pnp P) foods (Pfood P))
    (hy : okP P a b f → ∀ k' b' f', Rp (Pnp P + 1) k' (Pkind (tlP P a b f)) → Rp (Pnp P + 1) b' (Pbed (tlP P a b f)) → Rp (Pnp P + 1) f' (Pfood (tlP P a b f)) → K 1 (nI (Pnp P + 1)) k' b' f')
    (hn : ¬ okP P a b f → K 0 (nI (Pnp P)) kinds beds foods) : wpX3_tellPerson (nI (Pnp P)) kinds beds foods (nI a) (nI b) (nI f) K := by
  have up : ∀ {g : Nat → Int32} {G : Nat → Nat} {v : Nat}, Rp (Pnp P) g G → Rp (Pnp P + 1) (upd g (Pnp P) (nI v)) (uA G (Pnp P) v) := by
    intro g G v hg k hk
    by_cases e : k = Pnp P
    · subst e; rw [pk_us, uA_s]
    · rw [pk_un e, uA_n _ _ e]; exact hg k (by omega)
  unfold wpX3_tellPerson
  refine it_le (a := 6) (by omega) (by omega) (fun y => hn (fun z => by omega)) (fun y => ?_)
  refine p_wn (lo := 0) (hi := 4) (by omega) (by omega) (by omega) (fun q1 => i1 ?_) (fun q1 => i0 (hn (fun z => q1 ⟨by omega, z.2.1⟩)))
  refine p_wn (lo := 0) (hi := 5) (by omega) (by omega) (by omega) (fun q2 => i1 ?_) (fun q2 => i0 (hn (fun z => q2 ⟨by omega, z.2.2.1⟩)))
  refine p_wn (lo := 0) (hi := 30) (by omega) (by omega) (by omega) (fun q3 => i1 ?_) (fun q3 => i0 (hn (fun z => q3 ⟨by omega, z.2.2.2⟩)))
  have ok : okP P a b f := ⟨y, q1.2, q2.2, q3.2⟩
  refine p_put y (by decide) ?_
  intro J71 h71
  have go : ∀ v5, v5 = nI (if a = 1 then 2 * b else b) → J71 v5 := by
    intro v5 e5
    refine h71 _ (p_put y (by decide) (p_put y (by decide) ?_))
    rw [nI_1, e5]
    exact hy ok _ _ _ (up h1) (up h2) (up h3)
  refine it_eq (b := 1) (by omega) (by omega) (fun z => go _ ?_) (fun z => go _ ?_)
  · rw [if_pos z]; exact pk_mul 2 b
  · rw [if_neg z]
theorem p_tellN {P : aP} {a b : Nat} {pu pe : Nat → Int32} {K : Int32 → Int32 → (Nat → Int32) → (Nat → Int32) → Prop} (h8 : Pnn P ≤ 8) (ha : a < 100) (hb : b < 100) (h1 : Rp (Pnn P) pu (Punk P)) (h2 : Rp (Pnn P) pe (Peat P))
    (hy : okN P a b → ∀ u' e', Rp (Pnn P + 1) u' (Punk (tlN P a b)) → Rp (Pnn P + 1) e' (Peat (tlN P a b)) → K 1 (nI (Pnn P + 1)) u' e')
    (hn : ¬ okN P a b → K 0 (nI (Pnn P)) pu pe) : wpX3_tellName (nI (Pnn P)) pu pe (nI a) (nI b) K := by
  have up : ∀ {g : Nat → Int32} {G : Nat → Nat} {v : Nat}, Rp (Pnn P) g G → Rp (Pnn P + 1) (upd g (Pnn P) (nI v)) (uA G (Pnn P) v) := by
    intro g G v hg k hk
    by_cases e : k = Pnn P
    · subst e; rw [pk_us, uA_s]
    · rw [pk_un e, uA_n _ _ e]; exact hg k (by omega)
  unfold wpX3_tellName
  refine it_le (a := 8) (by omega) (by omega) (fun y => hn (fun z => by omega)) (fun y => ?_)
  refine p_wn (lo := 0) (hi := 20) (by omega) (by omega) (by omega) (fun q1 => i1 ?_) (fun q1 => i0 (hn (fun z => q1 ⟨by omega, z.2.1⟩)))
  refine p_wn (lo := 0) (hi := 9) (by omega) (by omega) (by omega) (fun q2 => i1 ?_) (fun q2 => i0 (hn (fun z => q2 ⟨by omega, z.2.2⟩)))
  refine p_put y (by decide) (p_put y (by decide) ?_)
  rw [nI_1]
  exact hy ⟨y, q1.2, q2.2⟩ _ _ (up h1) (up h2)
theorem p_tellQ {a : Nat} {q : Int32} {K : Int32 → Int32 → Prop} (ha : a < 100) (hy : okQ a → K 1 (nI a)) (hn : ¬ okQ a → K 0 q) : wpX3_tellQuarrel q (nI a) K := by
  unfold wpX3_tellQuarrel
  exact p_wn (lo := 1) (hi := 20) (by omega) (by omega) (by omega) (fun q1 => i1 (hy q1)) (fun q1 => i0 (hn q1))
theorem p_tellW {P : aP} {w : aW} {a b f : Nat} {rows : Nat → Int64} {K : Int32 → (Nat → Int64) → Prop} (h6 : Pnp P ≤ 6) (h8 : Pnn P ≤ 8) (ha : a < 100) (hb : b < 100) (hf : f < 100) (hr : rW rows w)
    (hy : okW P w a b f → ∀ r, rW r (wf w a b f) → K 1 r) (hn : ¬ okW P w a b f → K 0 rows) : wpX3_tellWord (nI (Pnp P)) (nI (Pnn P)) rows (nI a) (nI b) (nI f) K := by
  unfold wpX3_tellWord
  refine p_wn1 (by omega) (by omega) (fun q1 => i1 ?_) (fun q1 => i0 (hn (fun z => q1 z.1)))
  refine p_wn1 (by omega) (by omega) (fun q2 => i1 ?_) (fun q2 => i0 (hn (fun z => q2 z.2.1)))
  refine it_eq (by omega) (by omega) (fun q3 => hn (fun z => z.2.2.1 q3)) (fun q3 => ?_)
  refine p_wn1 (by omega) (by omega) (fun q4 => i1 ?_) (fun q4 => i0 (hn (fun z => q4 z.2.2.2.1)))
  refine p_canFlip hr (by omega) (by omega) (by omega) ?_
  by_cases ht : w a b f = true ∨ tot w < 12
  · have e : (w a b f || decide (tot w < 12)) = true := by
      rcases ht with y | y
      · rw [y]; rfl
      · rw [decide_eq_true y, Bool.or_true]
    rw [e]
    exact i1 (p_flip hr (by omega) (by omega) (by omega) (hy ⟨q1, q2, q3, q4, ht⟩))
  · have e : (w a b f || decide (tot w < 12)) = false := by
      cases hw : w a b f with
      | true => exact absurd (Or.inl hw) ht
      | false => rw [Bool.false_or]; exact decide_eq_false (fun z => ht (Or.inr z))
    rw [e]
    exact i0 (hn (fun z => ht z.2.2.2.2))
