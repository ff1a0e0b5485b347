/-! pure: how many bits of a long -/
theorem and_split {a b c d : Nat} (ha : a < 256) (hc : c < 256) : (a + 256 * b) &&& (c + 256 * d) = (a &&& c) + 256 * (b &&& d) := by
  have e : ∀ x y : Nat, x < 256 → ∀ i, (x + 256 * y).testBit i = if i < 8 then x.testBit i else y.testBit (i - 8) := by
    intro x y hx i
    rw [Nat.add_comm, show 256 * y + x = 2 ^ 8 * y + x from rfl, Nat.testBit_two_pow_mul_add y hx]
  have hac : (a &&& c) < 256 := Nat.lt_of_le_of_lt Nat.and_le_left ha
  apply Nat.eq_of_testBit_eq
  intro i
  rw [Nat.testBit_and, e a b ha, e c d hc, e _ _ hac]
  split <;> rw [Nat.testBit_and]
def M5 : Nat → Nat
  | 0 => 0
  | k + 1 => 85 + 256 * M5 k
def M3 : Nat → Nat
  | 0 => 0
  | k + 1 => 51 + 256 * M3 k
def Mf : Nat → Nat
  | 0 => 0
  | k + 1 => 15 + 256 * Mf k
def F1 (k x : Nat) : Nat := x - ((x / 2) &&& M5 k)
def F2 (k x : Nat) : Nat := (F1 k x &&& M3 k) + ((F1 k x / 4) &&& M3 k)
def F3 (k x : Nat) : Nat := (F2 k x + F2 k x / 16) &&& Mf k
theorem f1b : ∀ B, B < 256 → ∀ t, t < 2 → ((B / 2 + 128 * t) &&& 85) = ((B / 2) &&& 85) := by decide +kernel
theorem f1c : ∀ B, B < 256 → ((B / 2) &&& 85) ≤ B := by decide +kernel
theorem f2b : ∀ B, B < 256 → ∀ t, t < 4 → ((B / 4 + 64 * t) &&& 51) = ((B / 4) &&& 51) := by decide +kernel
def g2 (B : Nat) : Nat := ((B - ((B / 2) &&& 85)) &&& 51) + (((B - ((B / 2) &&& 85)) / 4) &&& 51)
theorem g2b : ∀ B, B < 256 → g2 B % 16 ≤ 4 ∧ g2 B / 16 ≤ 4 := by decide +kernel
theorem g3b : ∀ B, B < 256 → ∀ t, t < 5 → ((g2 B + g2 B / 16 + 16 * t) &&& 15) = pop8 B := by decide +kernel
theorem F1_s (k B y : Nat) (hB : B < 256) : F1 (k + 1) (B + 256 * y) = (B - ((B / 2) &&& 85)) + 256 * F1 k y := by
  unfold F1
  have e1 : (B + 256 * y) / 2 = (B / 2 + 128 * (y % 2)) + 256 * (y / 2) := by omega
  rw [e1]
  show B + 256 * y - (((B / 2 + 128 * (y % 2)) + 256 * (y / 2)) &&& (85 + 256 * M5 k)) = _
  rw [and_split (by omega) (by omega), f1b B hB _ (by omega)]
  have h1 := f1c B hB
  have h2 : ((y / 2) &&& M5 k) ≤ y / 2 := Nat.and_le_left
  omega
theorem F2_s (k B y : Nat) (hB : B < 256) : F2 (k + 1) (B + 256 * y) = g2 B + 256 * F2 k y := by
  unfold F2 g2
  rw [F1_s k B y hB]
  generalize hb : B - ((B / 2) &&& 85) = b
  have hb2 : b < 256 := by omega
  have e1 : (b + 256 * F1 k y) / 4 = (b / 4 + 64 * (F1 k y % 4)) + 256 * (F1 k y / 4) := by omega
  rw [e1]
  show ((b + 256 * F1 k y) &&& (51 + 256 * M3 k)) + (((b / 4 + 64 * (F1 k y % 4)) + 256 * (F1 k y / 4)) &&& (51 + 256 * M3 k)) = _
  rw [and_split hb2 (by omega), and_split (by omega) (by omega), f2b b hb2 _ (by omega)]
  omega
theorem F2_m : ∀ k y, y < 256 ^ k → F2 k y % 16 ≤ 4 := by
  intro k y hy
  cases k with
  | zero =>
    have : y = 0 := by simpa using hy
    subst this
    decide
  | succ k =>
    have e : y = y % 256 + 256 * (y / 256) := by omega
    rw [e, F2_s k (y % 256) (y / 256) (by omega)]
    have := g2b (y % 256) (by omega)
    omega
theorem F3_s (k B y : Nat) (hB : B < 256) (hy : y < 256 ^ k) : F3 (k + 1) (B + 256 * y) = pop8 B + 256 * F3 k y := by
  unfold F3
  rw [F2_s k B y hB]
  have hg := g2b B hB
  have hm := F2_m k y hy
  have e1 : (g2 B + 256 * F2 k y) + (g2 B + 256 * F2 k y) / 16 = (g2 B + g2 B / 16 + 16 * (F2 k y % 16)) + 256 * (F2 k y + F2 k y / 16) := by omega
  rw [e1]
  show ((g2 B + g2 B / 16 + 16 * (F2 k y % 16)) + 256 * (F2 k y + F2 k y / 16)) &&& (15 + 256 * Mf k) = _
  rw [and_split (by omega) (by omega), g3b B hB _ (by omega)]
theorem F3_8 {x : Nat} (hx : x < 2 ^ 48) : F3 8 x = pop8 (x % 256) + 256 * (pop8 (x / 2 ^ 8 % 256) + 256 * (pop8 (x / 2 ^ 16 % 256) + 256 * (pop8 (x / 2 ^ 24 % 256) + 256 * (pop8 (x / 2 ^ 32 % 256) + 256 * (pop8 (x / 2 ^ 40 % 256)))))) := by
  have s : ∀ k y, y < 256 ^ (k + 1) → F3 (k + 1) y = pop8 (y % 256) + 256 * F3 k (y / 256) := by
    intro k y hy
    have e : y = y % 256 + 256 * (y / 256) := by omega
    have hq : y / 256 < 256 ^ k := by
      rw [Nat.pow_succ] at hy
      exact Nat.div_lt_of_lt_mul (by rw [Nat.mul_comm]; exact hy)
    conv => lhs; rw [e]
    exact F3_s k _ _ (by omega) hq
  have z : F3 2 0 = 0 := by decide
  rw [s 7 x (by omega), s 6 _ (by omega), s 5 _ (by omega), s 4 _ (by omega), s 3 _ (by omega), s 2 _ (by omega)]
  rw [show x / 256 / 256 / 256 / 256 / 256 / 256 = 0 by omega, z]
  rw [show x / 256 / 256 / 256 / 256 / 256 = x / 2 ^ 40 by omega, show x / 256 / 256 / 256 / 256 = x / 2 ^ 32 by omega, show x / 256 / 256 / 256 = x / 2 ^ 24 by omega, show x / 256 / 256 = x / 2 ^ 16 by omega, show x / 256 = x / 2 ^ 8 by omega]
  omega
theorem pop8_tb {x : Nat} (hx : x < 256) : pop8 x = nsum (fun n => bI (x.testBit n)) 8 := by
  have e : x = bsum (fun n => x.testBit n) 8 := bsum_eq hx (fun j _ => rfl)
  conv => lhs; rw [e]
  rw [pop8_bs]
theorem nsum_add (f : Nat → Nat) (a b : Nat) : nsum f (a + b) = nsum f a + nsum (fun k => f (a + k)) b := by
  induction b with
  | zero => rfl
  | succ b ih =>
    show nsum f (a + b) + f (a + b) = nsum f a + (nsum (fun k => f (a + k)) b + f (a + b))
    omega
theorem byte_tb (x : Nat) (k : Nat) : pop8 (x / 2 ^ k % 256) = nsum (fun n => bI (x.testBit (k + n))) 8 := by
  rw [pop8_tb (by omega)]
  refine nsum_congr (fun j hj => ?_)
  rw [show (256 : Nat) = 2 ^ 8 from rfl, Nat.testBit_mod_two_pow, Nat.testBit_div_two_pow, Nat.add_comm j k]
  simp [hj]
def pop48 (x : Nat) : Nat := nsum (fun b => bI (x.testBit b)) 48
theorem pop48_b (x : Nat) : pop48 x = pop8 (x % 256) + pop8 (x / 2 ^ 8 % 256) + pop8 (x / 2 ^ 16 % 256) + pop8 (x / 2 ^ 24 % 256) + pop8 (x / 2 ^ 32 % 256) + pop8 (x / 2 ^ 40 % 256) := by
  unfold pop48
  rw [show (48 : Nat) = 8 + (8 + (8 + (8 + (8 + 8)))) from rfl, nsum_add, nsum_add, nsum_add, nsum_add, nsum_add]
  have b0 := byte_tb x 0
  rw [Nat.pow_zero, Nat.div_one] at b0
  rw [byte_tb x 8, byte_tb x 16, byte_tb x 24, byte_tb x 32, byte_tb x 40, b0]
  simp only [Nat.zero_add, ← Nat.add_assoc]
theorem F_le {k x : Nat} : F1 k x ≤ x := Nat.sub_le _ _
theorem pop48_lt {x : Nat} (_hx : x < 2 ^ 48) : pop48 x < 49 := by
  have := nsum_le (f := fun b => bI (x.testBit b)) (b := 1) (fun k => by unfold bI; split <;> omega) 48
  unfold pop48
  omega
theorem p_bit64 {x : Nat} {K : Int32 → Prop} (hx : x < 2 ^ 48) (h : K (nI (pop48 x))) : wpJ13_bitCount_95d88 (lN x) K := by
  have sh : ∀ {n : Nat} (k : Nat), n < 2 ^ 64 → k < 64 → ((lN n).toUInt64 >>> ((Int32.toInt64 (nI k)).toUInt64 &&& Int64.toUInt64 63)).toInt64 = lN (n / 2 ^ k) := fun k h1 h2 => wb_shr h1 h2
  have c5 : (6148914691236517205 : Int64) = lN (M5 8) := by decide +kernel
  have c3 : (3689348814741910323 : Int64) = lN (M3 8) := by decide +kernel
  have cf : (1085102592571150095 : Int64) = lN (Mf 8) := by decide +kernel
  have m5 : M5 8 < 2 ^ 64 := by decide +kernel
  have m3 : M3 8 < 2 ^ 64 := by decide +kernel
  have mf : Mf 8 < 2 ^ 64 := by decide +kernel
  have q1 : F1 8 x ≤ x := F_le
  have q2 : F2 8 x ≤ x + x := by
    unfold F2
    have a1 : (F1 8 x &&& M3 8) ≤ F1 8 x := Nat.and_le_left
    have a2 : ((F1 8 x / 4) &&& M3 8) ≤ F1 8 x / 4 := Nat.and_le_left
    omega
  have q3 : F3 8 x ≤ 4 * x := by
    unfold F3
    have a1 : ((F2 8 x + F2 8 x / 16) &&& Mf 8) ≤ F2 8 x + F2 8 x / 16 := Nat.and_le_left
    omega
  unfold wpJ13_bitCount_95d88
  intro x1 e1 x2 e2 x3 e3 x4 e4 x5 e5 x6 e6
  have f1 : x1 = lN (F1 8 x) := by
    rw [e1, show (1 : Int32) = nI 1 from rfl, sh 1 (by omega) (by omega), c5, wb_and (by omega) m5, lN_sub (by
      have : ((x / 2 ^ 1) &&& M5 8) ≤ x / 2 ^ 1 := Nat.and_le_left
      omega)]
    rfl
  have f2 : x2 = lN (F2 8 x) := by
    rw [e2, f1, show (2 : Int32) = nI 2 from rfl, sh 2 (by omega) (by omega), c3, wb_and (by omega) m3, wb_and (by omega) m3, lN_add]
    rfl
  have f3 : x3 = lN (F3 8 x) := by
    rw [e3, f2, show (4 : Int32) = nI 4 from rfl, sh 4 (by omega) (by omega), lN_add, cf, wb_and (by omega) mf]
    rfl
  have f4 : x4 = lN (F3 8 x + F3 8 x / 2 ^ 8) := by
    rw [e4, f3, show (8 : Int32) = nI 8 from rfl, sh 8 (by omega) (by omega), lN_add]
  generalize hA : F3 8 x + F3 8 x / 2 ^ 8 = A at f4
  have f5 : x5 = lN (A + A / 2 ^ 16) := by
    rw [e5, f4, show (16 : Int32) = nI 16 from rfl, sh 16 (by omega) (by omega), lN_add]
  generalize hB : A + A / 2 ^ 16 = B at f5
  have f6 : x6 = lN (B + B / 2 ^ 32) := by
    rw [e6, f5, show (32 : Int32) = nI 32 from rfl, sh 32 (by omega) (by omega), lN_add]
  have fin : (Int64.toInt32 x6) &&& 127 = nI (pop48 x) := by
    rw [f6, lN_i, show (127 : Int32) = nI 127 from rfl, nx_and, show (127 : Nat) = 2 ^ 7 - 1 from rfl, Nat.and_two_pow_sub_one_eq_mod]
    congr 1
    rw [pop48_b]
    rw [F3_8 hx] at hA
    have p0 := pop8_8 (x % 256) (by omega)
    have p1 := pop8_8 (x / 2 ^ 8 % 256) (by omega)
    have p2 := pop8_8 (x / 2 ^ 16 % 256) (by omega)
    have p3 := pop8_8 (x / 2 ^ 24 % 256) (by omega)
    have p4 := pop8_8 (x / 2 ^ 32 % 256) (by omega)
    have p5 := pop8_8 (x / 2 ^ 40 % 256) (by omega)
    generalize pop8 (x % 256) = y0 at *
    generalize pop8 (x / 2 ^ 8 % 256) = y1 at *
    generalize pop8 (x / 2 ^ 16 % 256) = y2 at *
    generalize pop8 (x / 2 ^ 24 % 256) = y3 at *
    generalize pop8 (x / 2 ^ 32 % 256) = y4 at *
    generalize pop8 (x / 2 ^ 40 % 256) = y5 at *
    clear e1 e2 e3 e4 e5 e6 f1 f2 f3 f4 f5 f6 q1 q2 q3
    have hA2 : A = (y0 + y1) + 256 * ((y1 + y2) + 256 * ((y2 + y3) + 256 * ((y3 + y4) + 256 * ((y4 + y5) + 256 * y5)))) := by omega
    clear hA
    have hB1 : A / 2 ^ 16 = (y2 + y3) + 256 * ((y3 + y4) + 256 * ((y4 + y5) + 256 * y5)) := by omega
    have hB2 : B = (y0 + y1 + y2 + y3) + 256 * ((y1 + y2 + y3 + y4) + 256 * ((y2 + y3 + y4 + y5) + 256 * ((y3 + y4 + y5) + 256 * ((y4 + y5) + 256 * y5)))) := by omega
    clear hB hB1 hA2
    have hC : B / 2 ^ 32 = (y4 + y5) + 256 * y5 := by omega
    omega
  rw [fin]
  exact h
