/-! pure: sets of bits -/
def bsum (f : Nat → Bool) : Nat → Nat
  | 0 => 0
  | k + 1 => bsum f k + (if f k then 2 ^ k else 0)
theorem bsum_lt (f : Nat → Bool) : ∀ k, bsum f k < 2 ^ k := by
  intro k
  induction k with
  | zero => exact Nat.one_pos
  | succ k ih =>
    have e : 2 ^ (k + 1) = 2 ^ k + 2 ^ k := by rw [Nat.pow_succ]; omega
    unfold bsum
    split <;> omega
theorem bsum_tb (f : Nat → Bool) : ∀ k j, (bsum f k).testBit j = (decide (j < k) && f j) := by
  intro k
  induction k with
  | zero => intro j; simp [bsum]
  | succ k ih =>
    intro j
    have hlt := bsum_lt f k
    unfold bsum
    cases hf : f k with
    | true =>
      rw [if_pos rfl, show bsum f k + 2 ^ k = 2 ^ k * 1 + bsum f k by omega, Nat.two_pow_add_eq_or_of_lt hlt, Nat.mul_one, Nat.testBit_or, ih, Nat.testBit_two_pow]
      by_cases h1 : j = k
      · subst h1; simp [hf]
      · by_cases h2 : j < k
        · simp [h2, Ne.symm h1, show j < k + 1 by omega]
        · simp [h2, Ne.symm h1, show ¬ j < k + 1 by omega]
    | false =>
      simp only [Bool.false_eq_true, if_false, Nat.add_zero]
      rw [ih]
      by_cases h1 : j = k
      · subst h1; simp [hf]
      · by_cases h2 : j < k
        · simp [h2, show j < k + 1 by omega]
        · simp [h2, show ¬ j < k + 1 by omega]
theorem bsum_eq {f : Nat → Bool} {k x : Nat} (hx : x < 2 ^ k) (h : ∀ j, j < k → x.testBit j = f j) : x = bsum f k := by
  apply Nat.eq_of_testBit_eq
  intro j
  rw [bsum_tb]
  by_cases hj : j < k
  · rw [h j hj]; simp [hj]
  · rw [Nat.testBit_lt_two_pow (Nat.lt_of_lt_of_le hx (Nat.pow_le_pow_right (by decide) (by omega)))]; simp [hj]
theorem bsum_congr {f g : Nat → Bool} {k : Nat} (h : ∀ j, j < k → f j = g j) : bsum f k = bsum g k :=
  bsum_eq (bsum_lt f k) (fun j hj => by rw [bsum_tb, h j hj]; simp [hj])
theorem tb_div (x j : Nat) : x / 2 ^ j % 2 = bI (x.testBit j) := by
  rw [Nat.testBit_eq_decide_div_mod_eq]
  unfold bI
  rcases Nat.mod_two_eq_zero_or_one (x / 2 ^ j) with h | h <;> simp [h]
def nsum (f : Nat → Nat) : Nat → Nat
  | 0 => 0
  | k + 1 => nsum f k + f k
theorem nsum_congr {f g : Nat → Nat} {k : Nat} (h : ∀ j, j < k → f j = g j) : nsum f k = nsum g k := by
  induction k with
  | zero => rfl
  | succ k ih => show nsum f k + f k = nsum g k + g k; rw [ih (fun j hj => h j (by omega)), h k (by omega)]
theorem nsum_le {f : Nat → Nat} {b : Nat} (h : ∀ k, f k ≤ b) : ∀ k, nsum f k ≤ k * b := by
  intro k
  induction k with
  | zero => simp [nsum]
  | succ k ih => have := h k; rw [Nat.succ_mul]; unfold nsum; omega
theorem nsum_ext {f : Nat → Nat} {a b : Nat} (hab : a ≤ b) (h : ∀ k, a ≤ k → k < b → f k = 0) : nsum f b = nsum f a := by
  induction b with
  | zero => rw [show a = 0 by omega]
  | succ b ih =>
    rcases Nat.lt_or_ge b a with q | q
    · rw [show a = b + 1 by omega]
    · show nsum f b + f b = _
      rw [ih q (fun k h1 h2 => h k h1 (by omega)), h b q (by omega)]; rfl
theorem pop8_bs (f : Nat → Bool) : pop8 (bsum f 8) = nsum (fun i => bI (f i)) 8 := by
  simp only [bsum, nsum]
  generalize f 0 = a; generalize f 1 = b; generalize f 2 = c; generalize f 3 = d; generalize f 4 = e; generalize f 5 = g; generalize f 6 = x; generalize f 7 = y
  revert a b c d e g x y
  decide +kernel
theorem pop8_bs6 (f : Nat → Bool) : pop8 (bsum f 6) = nsum (fun i => bI (f i)) 6 := by
  simp only [bsum, nsum]
  generalize f 0 = a; generalize f 1 = b; generalize f 2 = c; generalize f 3 = d; generalize f 4 = e; generalize f 5 = g
  revert a b c d e g
  decide +kernel
/-- the row of words about j, in the class's order -/
def wr (w : Nat → Nat → Nat → Bool) (j : Nat) : Nat := bsum (fun b => w (b % 6) j (b / 6)) 48
/-- the words that i says of j, in the reference's order -/
def wm (w : Nat → Nat → Nat → Bool) (i j : Nat) : Nat := bsum (fun n => w i j n) 8
theorem wr_lt (w : Nat → Nat → Nat → Bool) (j : Nat) : wr w j < 2 ^ 48 := bsum_lt _ _
theorem wm_lt (w : Nat → Nat → Nat → Bool) (i j : Nat) : wm w i j < 256 := bsum_lt _ 8
theorem wr_tb (w : Nat → Nat → Nat → Bool) (j : Nat) {i n : Nat} (hi : i < 6) (hn : n < 8) : (wr w j).testBit (6 * n + i) = w i j n := by
  unfold wr
  rw [bsum_tb, show (6 * n + i) % 6 = i by omega, show (6 * n + i) / 6 = n by omega]
  simp; omega
theorem wm_tb (w : Nat → Nat → Nat → Bool) (i j : Nat) {n : Nat} (hn : n < 8) : (wm w i j).testBit n = w i j n := by
  unfold wm
  rw [bsum_tb]
  simp [hn]
theorem cal_wr (w : Nat → Nat → Nat → Bool) (j : Nat) {n : Nat} (hn : n < 8) : cal (wr w j) n = bsum (fun i => w i j n) 6 := by
  unfold cal
  refine bsum_eq (Nat.mod_lt _ (by decide)) (fun i hi => ?_)
  rw [show (64 : Nat) = 2 ^ 6 from rfl, Nat.testBit_mod_two_pow, Nat.testBit_div_two_pow, show i + 6 * n = 6 * n + i by omega, wr_tb w j hi hn]
  simp [hi]
/-- how many call j by n -/
def cw (w : Nat → Nat → Nat → Bool) (j : Nat) : Nat → Nat := fun n => nsum (fun i => bI (w i j n)) 6
theorem cw_lt (w : Nat → Nat → Nat → Bool) (j n : Nat) : cw w j n < 7 := by
  have h : ∀ k, bI (w k j n) ≤ 1 := fun k => by unfold bI; split <;> omega
  have := nsum_le (f := fun i => bI (w i j n)) (b := 1) h 6
  unfold cw
  omega
theorem cwR_wr (w : Nat → Nat → Nat → Bool) (j : Nat) {n : Nat} (hn : n < 8) : cwR (wr w j) n = cw w j n := by
  unfold cwR cw
  rw [cal_wr w j hn, pop8_bs6]
theorem dayTo_cw {nn kind beds q : Nat} {unk c1 c2 st : Nat → Nat} (hc : ∀ k, k < nn → c1 k = c2 k) : ∀ n, n ≤ nn → dayTo nn kind beds q unk c1 st n = dayTo nn kind beds q unk c2 st n := by
  intro n
  induction n with
  | zero => intro _; rfl
  | succ n ih =>
    intro hn
    unfold dayTo
    rw [ih (by omega), hc n (by omega)]
theorem dayS_cw {nn kind beds food q : Nat} {unk eat c1 c2 st : Nat → Nat} (hc : ∀ k, k < nn → c1 k = c2 k) : dayS nn kind beds food q unk eat c1 st = dayS nn kind beds food q unk eat c2 st := by
  unfold dayS
  rw [dayTo_cw hc nn (Nat.le_refl _)]
