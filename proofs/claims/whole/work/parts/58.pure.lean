/-! pure: words and standings of the class -/
def rW (rows : Nat → Int64) (w : aW) : Prop := ∀ p, p < 6 → rows p = lN (wr w p)
def rD (f : Nat → Int32) (st : aT) : Prop := ∀ p, p < 6 → ∀ n, n < 8 → f (8 * p + n) = nI (st p n)
def wf (w : aW) (i j n : Nat) : aW := fun a b c => if a = i ∧ b = j ∧ c = n then !(w a b c) else w a b c
def wu (w : aW) (i j n : Nat) : aW := fun a b c => if a = i ∧ b = j ∧ c = n then true else w a b c
def tot (w : aW) : Nat := nsum (fun p => pop48 (wr w p)) 6
theorem two48 {i n : Nat} (hi : i < 6) (hn : n < 8) : 2 ^ (6 * n + i) < 2 ^ 48 := Nat.pow_lt_pow_right (by decide) (by omega)
theorem p_rows {rows : Nat → Int64} {w : aW} {p : Nat} {K : Int64 → Prop} (h : rW rows w) (hp : p < 6) (hk : K (lN (wr w p))) : wpX8_at_ 6 rows (nI p) K := by
  refine p_at_ hp (by decide) ?_
  rw [h p hp]
  exact hk
theorem p_about {rows : Nat → Int64} {w : aW} {p : Nat} {K : Int64 → Prop} (h : rW rows w) (hp : p < 6) (hk : K (lN (wr w p))) : wpX7_about rows (nI p) K := by
  unfold wpX7_about
  exact p_rows h hp hk
theorem p_bit {i n : Nat} {K : Int64 → Prop} (hi : i < 6) (hn : n < 8) (hk : K (lN (2 ^ (6 * n + i)))) : wpX7_bit (nI i) (nI n) K := by
  unfold wpX7_bit
  rw [m6, nI_add, show (1 : Int64) = lN 1 from rfl, wb_shl 1 (by omega), Nat.one_mul]
  exact hk
theorem lN_ne0 {x : Nat} (hx : x < 2 ^ 63) : lN x = 0 ↔ x = 0 := by
  rw [show (0 : Int64) = lN 0 from rfl]
  exact pk_lEQ hx (by decide)
theorem and_bit (x k : Nat) : x &&& 2 ^ k = if x.testBit k then 2 ^ k else 0 := by
  apply Nat.eq_of_testBit_eq
  intro j
  rw [Nat.testBit_and, Nat.testBit_two_pow]
  by_cases e : k = j
  · subst e
    cases h : x.testBit k <;> simp [Nat.testBit_two_pow]
  · cases h : x.testBit k <;> simp [e, Nat.testBit_two_pow]
theorem p_has {rows : Nat → Int64} {w : aW} {i j n : Nat} {K : Int32 → Prop} (h : rW rows w) (hi : i < 6) (hj : j < 6) (hn : n < 8) (hk : K (nI (bI (w i j n)))) : wpX7_has rows (nI i) (nI j) (nI n) K := by
  unfold wpX7_has
  refine p_rows h hj (p_bit hi hn ?_)
  have hw := wr_lt w j
  have h2 := two48 hi hn
  have hpos : 0 < 2 ^ (6 * n + i) := Nat.two_pow_pos _
  rw [wb_and (by omega) (by omega), and_bit, wr_tb w j hi hn]
  cases e : w i j n with
  | true =>
    rw [e] at hk
    rw [if_neg (by rw [lg_cmp_eq, if_pos rfl, lN_ne0 (by omega)]; omega)]
    exact hk
  | false =>
    rw [e] at hk
    rw [if_pos (by rw [lg_cmp_eq]; rfl)]
    exact hk
theorem p_total {rows : Nat → Int64} {w : aW} {K : Int32 → Prop} (h : rW rows w) (hk : K (nI (tot w))) : wpX7_total rows K := by
  unfold wpX7_total
  intro J hJ
  refine kloop (J := fun k => J (nI (nsum (fun p => pop48 (wr w p)) k)) (nI k)) (N := 6) ?_ ?_
  · exact hJ _ _ (it_le (a := 6) (b := 6) (by omega) (by omega) (fun _ => hk) (fun q => absurd q (by omega)))
  · intro k hk6 hnx
    refine hJ _ _ (it_le (a := 6) (b := k) (by omega) (by omega) (fun q => absurd q (by omega)) (fun _ => ?_))
    refine p_rows h hk6 ?_
    refine p_bit64 (wr_lt w k) ?_
    intro x hx
    rw [hx, nI_1, nI_add]
    exact hnx
theorem tot_lt (w : aW) : tot w < 300 := by
  have := nsum_le (f := fun p => pop48 (wr w p)) (b := 48) (fun k => by have := pop48_lt (wr_lt w k); omega) 6
  unfold tot
  omega
theorem p_canFlip {rows : Nat → Int64} {w : aW} {i j n : Nat} {K : Int32 → Prop} (h : rW rows w) (hi : i < 6) (hj : j < 6) (hn : n < 8) (hk : K (nI (bI (w i j n || decide (tot w < 12))))) : wpX7_canFlip rows (nI i) (nI j) (nI n) K := by
  unfold wpX7_canFlip
  refine p_has h hi hj hn ?_
  cases e : w i j n with
  | true =>
    rw [e] at hk
    show if (1 : Int32) = 0 then _ else _
    rw [if_neg (by decide)]
    exact hk
  | false =>
    rw [e] at hk
    show if (0 : Int32) = 0 then _ else _
    rw [if_pos rfl]
    refine p_total h ?_
    have ht := tot_lt w
    refine it_le (a := 12) (b := tot w) (by omega) (by omega) (fun q => ?_) (fun q => ?_)
    · rw [decide_eq_false (by omega)] at hk; exact hk
    · rw [decide_eq_true (by omega)] at hk; exact hk
theorem b66 {a b i n : Nat} (_ha : a < 48) (hi : i < 6) : (a % 6 = i ∧ a / 6 = n) ↔ a = 6 * n + i := by omega
theorem wr_wf (w : aW) (i j n : Nat) (hi : i < 6) (hn : n < 8) : wr (wf w i j n) j = wr w j ^^^ 2 ^ (6 * n + i) := by
  symm
  refine bsum_eq (Nat.xor_lt_two_pow (wr_lt w j) (two48 hi hn)) (fun b hb => ?_)
  rw [Nat.testBit_xor, Nat.testBit_two_pow]
  unfold wr wf
  rw [bsum_tb]
  by_cases e : 6 * n + i = b
  · rw [if_pos ⟨by omega, rfl, by omega⟩]
    simp [hb, e]
  · rw [if_neg (by omega)]
    simp [hb, e]
theorem wr_wf_o (w : aW) (i n : Nat) {j p : Nat} (h : p ≠ j) : wr (wf w i j n) p = wr w p := by
  unfold wr
  refine bsum_congr (fun b _ => ?_)
  unfold wf
  rw [if_neg (fun z => h z.2.1)]
theorem wr_wu (w : aW) (i j n : Nat) (hi : i < 6) (hn : n < 8) : wr (wu w i j n) j = wr w j ||| 2 ^ (6 * n + i) := by
  symm
  refine bsum_eq (Nat.or_lt_two_pow (wr_lt w j) (two48 hi hn)) (fun b hb => ?_)
  rw [Nat.testBit_or, Nat.testBit_two_pow]
  unfold wr wu
  rw [bsum_tb]
  by_cases e : 6 * n + i = b
  · rw [if_pos ⟨by omega, rfl, by omega⟩]
    simp [hb, e]
  · rw [if_neg (by omega)]
    simp [hb, e]
theorem wr_wu_o (w : aW) (i n : Nat) {j p : Nat} (h : p ≠ j) : wr (wu w i j n) p = wr w p := by
  unfold wr
  refine bsum_congr (fun b _ => ?_)
  unfold wu
  rw [if_neg (fun z => h z.2.1)]
theorem p_flip {rows : Nat → Int64} {w : aW} {i j n : Nat} {K : (Nat → Int64) → Prop} (h : rW rows w) (hi : i < 6) (hj : j < 6) (hn : n < 8) (hk : ∀ f, rW f (wf w i j n) → K f) : wpX7_flip rows (nI i) (nI j) (nI n) K := by
  unfold wpX7_flip
  refine p_rows h hj (p_bit hi hn (p_put_ hj (by decide) (hk _ ?_)))
  intro p hp
  rw [lN_xor]
  by_cases e : p = j
  · subst e
    rw [pk_uLs, wr_wf w i p n hi hn]
  · rw [pk_uLn e, wr_wf_o w i n e]
    exact h p hp
theorem p_wclear {rows : Nat → Int64} {K : (Nat → Int64) → Prop} (hk : ∀ f, rW f (fun _ _ _ => false) → K f) : wpX7_clear rows K := by
  have z : wr (fun _ _ _ => false) = fun _ => 0 := by
    funext j
    unfold wr
    show bsum (fun _ => false) 48 = 0
    decide
  unfold wpX7_clear
  intro J hJ
  refine (kloop (J := fun k => ∀ f, (∀ p, p < k → f p = (0 : Int64)) → J (nI k) f) (N := 6) ?_ ?_) rows (fun p hp => absurd hp (by omega))
  · intro f hf
    refine hJ _ _ (it_le (a := 6) (b := 6) (by omega) (by omega) (fun _ => hk f (fun p hp => ?_)) (fun q => absurd q (by omega)))
    rw [hf p hp, z]; rfl
  · intro k hk6 hnx f hf
    refine hJ _ _ (it_le (a := 6) (b := k) (by omega) (by omega) (fun q => absurd q (by omega)) (fun _ => ?_))
    refine p_put_ hk6 (by decide) ?_
    rw [nI_1]
    refine hnx _ (fun p hp => ?_)
    by_cases e : p = k
    · subst e; exact pk_uLs
    · rw [pk_uLn e]; exact hf p (by omega)
theorem p_wbecome {rows v : Nat → Int64} {w : aW} {K : (Nat → Int64) → Prop} (h : rW v w) (hk : ∀ f, rW f w → K f) : wpX7_become rows v K := by
  unfold wpX7_become
  intro J hJ
  refine (kloop (J := fun k => ∀ f, (∀ p, p < k → f p = lN (wr w p)) → J (nI k) f) (N := 6) ?_ ?_) rows (fun p hp => absurd hp (by omega))
  · intro f hf
    exact hJ _ _ (it_le (a := 6) (b := 6) (by omega) (by omega) (fun _ => hk f hf) (fun q => absurd q (by omega)))
  · intro k hk6 hnx f hf
    refine hJ _ _ (it_le (a := 6) (b := k) (by omega) (by omega) (fun q => absurd q (by omega)) (fun _ => ?_))
    refine p_about h hk6 (p_put_ hk6 (by decide) ?_)
    rw [nI_1]
    refine hnx _ (fun p hp => ?_)
    by_cases e : p = k
    · subst e; exact pk_uLs
    · rw [pk_uLn e]; exact hf p (by omega)
theorem rD_of {f : Nat → Int32} {st : aT} (h : ∀ k, k < 48 → f k = nI (st (k / 8) (k % 8))) : rD f st := by
  intro p hp n hn
  rw [h (8 * p + n) (by omega), show (8 * p + n) / 8 = p by omega, show (8 * p + n) % 8 = n by omega]
theorem rD.at {f : Nat → Int32} {st : aT} (h : rD f st) {k : Nat} (hk : k < 48) : f k = nI (st (k / 8) (k % 8)) := by
  have := h (k / 8) (by omega) (k % 8) (by omega)
  rw [show 8 * (k / 8) + k % 8 = k by omega] at this
  exact this
theorem p_begin {rows pr : Nat → Int64} {f : Nat → Int32} {w : aW} {K : Int32 → Int32 → (Nat → Int64) → (Nat → Int32) → Prop} (h : rW pr w) (hk : ∀ r g, rW r w → rD g (fun _ _ => 0) → K 0 0 r g) : wpX5_begin rows f pr K := by
  unfold wpX5_begin
  refine p_wbecome h (fun r hr => ?_)
  intro J hJ
  refine (kloop (J := fun k => ∀ g, (∀ p, p < k → g p = (0 : Int32)) → J (nI k) g) (N := 48) ?_ ?_) f (fun p hp => absurd hp (by omega))
  · intro g hg
    exact hJ _ _ (it_le (a := 48) (b := 48) (by omega) (by omega) (fun _ => hk r g hr (rD_of (fun k hk => hg k hk))) (fun q => absurd q (by omega)))
  · intro k hk6 hnx g hg
    refine hJ _ _ (it_le (a := 48) (b := k) (by omega) (by omega) (fun q => absurd q (by omega)) (fun _ => ?_))
    refine p_put hk6 (by decide) ?_
    rw [nI_1]
    refine hnx _ (fun p hp => ?_)
    by_cases e : p = k
    · subst e; exact pk_us
    · rw [pk_un e]; exact hg p (by omega)
theorem p_sbecome {rows qr : Nat → Int64} {f qf : Nat → Int32} {d l : Int32} {w : aW} {st : aT} {K : Int32 → Int32 → (Nat → Int64) → (Nat → Int32) → Prop} (h : rW qr w) (hs : rD qf st) (hk : ∀ r g, rW r w → rD g st → K d l r g) : wpX5_become rows f d l qr qf K := by
  unfold wpX5_become
  refine p_wbecome h (fun r hr => ?_)
  intro J hJ
  refine (kloop (J := fun k => ∀ g, (∀ p, p < k → g p = qf p) → J (nI k) g) (N := 48) ?_ ?_) f (fun p hp => absurd hp (by omega))
  · intro g hg
    exact hJ _ _ (it_le (a := 48) (b := 48) (by omega) (by omega) (fun _ => hk r g hr (rD_of (fun k hk => (hg k hk).trans (hs.at hk)))) (fun q => absurd q (by omega)))
  · intro k hk6 hnx g hg
    refine hJ _ _ (it_le (a := 48) (b := k) (by omega) (by omega) (fun q => absurd q (by omega)) (fun _ => ?_))
    refine p_at hk6 (by decide) (p_put hk6 (by decide) ?_)
    rw [nI_1]
    refine hnx _ (fun p hp => ?_)
    by_cases e : p = k
    · subst e; exact pk_us
    · rw [pk_un e]; exact hg p (by omega)
theorem p_stoutAt {f : Nat → Int32} {st : aT} {p n : Nat} {K : Int32 → Prop} (h : rD f st) (hp : p < 6) (hn : n < 8) (hk : K (nI (st p n))) : wpX5_stoutAt f (nI p) (nI n) K := by
  unfold wpX5_stoutAt
  rw [e8]
  refine p_at (by omega) (by decide) ?_
  rw [h p hp n hn]
  exact hk
theorem rD.put {f : Nat → Int32} {st : aT} (h : rD f st) {p n : Nat} (hn : n < 8) (v : Nat) : rD (upd f (8 * p + n) (nI v)) (uT st p (uA (st p) n v)) := by
  intro p' hp' n' hn'
  by_cases e : p' = p
  · subst e
    rw [uT_s]
    by_cases e2 : n' = n
    · subst e2; rw [pk_us, uA_s]
    · rw [pk_un (by omega), uA_n _ _ e2]; exact h p' hp' n' hn'
  · rw [pk_un (by omega), uT_n _ _ e]; exact h p' hp' n' hn'
theorem p_setStout {f : Nat → Int32} {st : aT} {p n v : Nat} {K : (Nat → Int32) → Prop} (h : rD f st) (hp : p < 6) (hn : n < 8) (hk : ∀ g, rD g (uT st p (uA (st p) n v)) → K g) : wpX5_setStout f (nI p) (nI n) (nI v) K := by
  unfold wpX5_setStout
  rw [e8]
  exact p_put (by omega) (by decide) (hk _ (h.put hn v))
def lodT (st : aT) : Nat := nsum (fun k => if st (k / 8) (k % 8) = 0 then 0 else 1) 48
theorem p_lodgings {f : Nat → Int32} {st : aT} {K : Int32 → Prop} (hv : ∀ p, V (st p)) (h : rD f st) (hk : K (nI (lodT st))) : wpX5_lodgings f K := by
  unfold wpX5_lodgings
  intro J hJ
  refine kloop (J := fun k => J (nI (nsum (fun k => if st (k / 8) (k % 8) = 0 then 0 else 1) k)) (nI k)) (N := 48) ?_ ?_
  · exact hJ _ _ (it_le (a := 48) (b := 48) (by omega) (by omega) (fun _ => hk) (fun q => absurd q (by omega)))
  · intro k hk6 hnx
    have hvk := hv (k / 8) (k % 8)
    refine hJ _ _ (it_le (a := 48) (b := k) (by omega) (by omega) (fun q => absurd q (by omega)) (fun _ => ?_))
    refine p_at hk6 (by decide) ?_
    rw [h.at hk6]
    intro J1 hJ1
    have e : nsum (fun k => if st (k / 8) (k % 8) = 0 then 0 else 1) (k + 1) = nsum (fun k => if st (k / 8) (k % 8) = 0 then 0 else 1) k + (if st (k / 8) (k % 8) = 0 then 0 else 1) := rfl
    rw [e] at hnx
    refine it_le (b := 0) (by omega) (by omega) (fun q => ?_) (fun q => ?_)
    · refine hJ1 _ ?_
      rw [if_pos (by omega)] at hnx
      rw [nI_1]; exact hnx
    · refine hJ1 _ ?_
      rw [if_neg (by omega)] at hnx
      rw [nI_1, nI_1]; exact hnx
theorem p_thinAll {f : Nat → Int32} {st : aT} {p : Nat} {K : (Nat → Int32) → Prop} (hv : V (st p)) (hp : p < 6) (h : rD f st) (hk : ∀ g, rD g (uT st p (fun n => if n < 8 then st p n - 1 else st p n)) → K g) : wpX5_thinAll f (nI p) K := by
  unfold wpX5_thinAll
  intro J hJ
  refine (kloop (J := fun k => ∀ g, rD g (uT st p (fun n => if n < k then st p n - 1 else st p n)) → J (nI k) g) (N := 8) ?_ ?_) f ?_
  · intro g hg
    exact hJ _ _ (it_le (a := 8) (b := 8) (by omega) (by omega) (fun _ => hk g hg) (fun q => absurd q (by omega)))
  · intro k hk8 hnx g hg
    refine hJ _ _ (it_le (a := 8) (b := k) (by omega) (by omega) (fun q => absurd q (by omega)) (fun _ => ?_))
    refine p_stoutAt hg hp hk8 ?_
    have e0 : (if k < k then st p k - 1 else st p k) = st p k := if_neg (by omega)
    rw [uT_s, e0, thin_1 _ (hv k)]
    refine p_setStout hg hp hk8 ?_
    intro g2 hg2
    rw [nI_1]
    refine hnx g2 ?_
    rw [uT_s, uT_uT] at hg2
    have e : uA (fun n => if n < k then st p n - 1 else st p n) k (st p k - 1) = fun n => if n < k + 1 then st p n - 1 else st p n := by
      funext n
      unfold uA
      by_cases e : n = k
      · subst e; rw [if_pos rfl, if_pos (by omega)]
      · rw [if_neg e]
        dsimp only
        by_cases e2 : n < k
        · rw [if_pos e2, if_pos (by omega)]
        · rw [if_neg e2, if_neg (by omega)]
    rw [← e]
    exact hg2
  · have e : (fun n => if n < 0 then st p n - 1 else st p n) = st p := by funext n; rw [if_neg (by omega)]
    rw [e, uT_id]
    exact h
