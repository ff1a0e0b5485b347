/-! pure: chance of the class -/
def lodS (P : aP) (st : aT) (p n S : Nat) : Bool := decide (0 < (dayS (Pnn P) (Pkind P p) (Pbed P p) (Pfood P p) (Pq P) (Punk P) (Peat P) (cwR S) (st p)).1 n)
def FS (P : aP) (st : aT) (p n x m S : Nat) : Nat := if lodS P st p n S then x ^ pop48 S * (10 - x) ^ (m - pop48 S) else 0
def cS (P : aP) (w : aW) (st : aT) (p n x : Nat) : Nat := HL (wr w p) (bl 48 (wr w p)) (FS P st p n x (pop48 (wr w p)))
theorem HL_le {R : Nat} : ∀ {l : List Nat} {F G : Nat → Nat}, (∀ S, F S ≤ G S) → HL R l F ≤ HL R l G := by
  intro l
  induction l with
  | nil => intro F G h; exact h R
  | cons b l ih => intro F G h; exact ih (fun S => by have h1 := h S; have h2 := h (S ^^^ 2 ^ b); omega)
theorem wN_sum (x y c : Nat) : nsum (fun k => wN x y k c) (2 ^ c) = (x + y) ^ c := by
  induction c with
  | zero => rfl
  | succ c ih =>
    rw [Nat.pow_succ, Nat.mul_comm, nsum_mul, Nat.pow_succ, ← ih]
    show 0 + nsum (fun j => wN x y (2 ^ c * 0 + j) (c + 1)) (2 ^ c) + nsum (fun j => wN x y (2 ^ c * 1 + j) (c + 1)) (2 ^ c) = _
    have cong : ∀ {k k' : Nat} {n : Nat}, (∀ j, j < n → k.testBit j = k'.testBit j) → wN x y k n = wN x y k' n := by
      intro k k' n
      induction n with
      | zero => intro _; rfl
      | succ n ih2 => intro h; show wN x y k n * _ = wN x y k' n * _; rw [ih2 (fun j hj => h j (by omega)), h n (by omega)]
    rw [Nat.zero_add, Nat.mul_add, Nat.add_comm]
    have e1 : nsum (fun j => wN x y (2 ^ c * 1 + j) (c + 1)) (2 ^ c) = nsum (fun k => wN x y k c) (2 ^ c) * x := by
      rw [← nsum_mulR]
      refine nsum_congr (fun k hk => ?_)
      have e : ∀ j, (2 ^ c * 1 + k).testBit j = if j < c then k.testBit j else (1 : Nat).testBit (j - c) := fun j => Nat.testBit_two_pow_mul_add 1 hk j
      have ec : (2 ^ c * 1 + k).testBit c = true := by
        rw [e c, if_neg (Nat.lt_irrefl c), Nat.sub_self]
        decide
      show wN x y (2 ^ c * 1 + k) c * (if (2 ^ c * 1 + k).testBit c then x else y) = _
      rw [ec, if_pos rfl, cong (k' := k) (fun j hj => by rw [e j, if_pos hj])]
    have e2 : nsum (fun j => wN x y (2 ^ c * 0 + j) (c + 1)) (2 ^ c) = nsum (fun k => wN x y k c) (2 ^ c) * y := by
      rw [← nsum_mulR]
      refine nsum_congr (fun k hk => ?_)
      rw [Nat.mul_zero, Nat.zero_add]
      show wN x y k c * (if k.testBit c then x else y) = _
      rw [Nat.testBit_lt_two_pow hk]
      rfl
    rw [e1, e2]
theorem p_power {a c : Nat} {K : Int64 → Prop} (hc : c < 100) (h : K (lN (a ^ c))) : wpX8_power (lN a) (nI c) K := by
  unfold wpX8_power
  intro J hJ
  refine kloop (J := fun k => J (lN (a ^ k)) (nI k)) (N := c) ?_ ?_
  · exact hJ _ _ (it_le (by omega) (by omega) (fun _ => h) (fun y => absurd y (by omega)))
  · intro k hk hn
    refine hJ _ _ (it_le (by omega) (by omega) (fun y => absurd y (by omega)) (fun _ => ?_))
    intro x3 e3
    rw [e3, lN_mul, ← Nat.pow_succ, nI_1]
    exact hn
theorem cmp0I (x : Nat) (hx : x < 2 ^ 63) {A B : Prop} (h1 : x = 0 → A) (h2 : x ≠ 0 → B) : if lg_cmp (lN x) 0 = 0 then A else B := by
  by_cases e : x = 0
  · rw [if_pos ((cmp0 x hx).mpr e)]; exact h1 e
  · rw [if_neg (fun z => e ((cmp0 x hx).mp z))]; exact h2 e
theorem p_gcd {a b : Nat} {K : Int64 → Prop} (ha : a < 2 ^ 62) (hb : b < 2 ^ 62) (h : K (lN (Nat.gcd a b))) : wpX8_greatestShared (lN a) (lN b) K := by
  unfold wpX8_greatestShared
  intro J hJ
  have key : ∀ n a b i, a < 2 ^ 62 → b < 2 ^ n → n ≤ 62 → i + 2 * n + 1 ≤ 1000 → K (lN (Nat.gcd a b)) → J (lN a) (lN b) (nI i) := by
    intro n
    induction n with
    | zero =>
      intro a b i ha hb _ hi hK
      refine hJ _ _ _ (it_le (a := 1000) (by omega) (by omega) (fun y => absurd y (by omega)) (fun _ => ?_))
      have e : b = 0 := by rw [Nat.pow_zero] at hb; omega
      subst e
      refine cmp0I 0 (by decide) (fun _ => ?_) (fun y => absurd rfl y)
      rw [Nat.gcd_zero_right] at hK
      exact hK
    | succ n ih =>
      intro a b i ha hb hn hi hK
      have hb62 : b < 2 ^ 62 := Nat.lt_of_lt_of_le hb (Nat.pow_le_pow_right (by decide) hn)
      refine hJ _ _ _ (it_le (a := 1000) (by omega) (by omega) (fun y => absurd y (by omega)) (fun _ => ?_))
      refine cmp0I b (by omega) (fun e => ?_) (fun e => ?_)
      · subst e; rw [Nat.gcd_zero_right] at hK; exact hK
      · refine ⟨fun z => e ((lN_ne0 (by omega)).mp z), ?_⟩
        intro x4 e4
        rw [pk_lRem (by omega) (by omega) (by omega)] at e4
        rw [e4, nI_1]
        have hr : a % b < b := Nat.mod_lt _ (by omega)
        refine hJ _ _ _ (it_le (a := 1000) (by omega) (by omega) (fun y => absurd y (by omega)) (fun _ => ?_))
        have g1 : Nat.gcd b (a % b) = Nat.gcd a b := by rw [Nat.gcd_comm, ← Nat.gcd_rec, Nat.gcd_comm]
        refine cmp0I (a % b) (by omega) (fun e2 => ?_) (fun e2 => ?_)
        · rw [e2, Nat.gcd_zero_right] at g1
          rw [g1]; exact hK
        · refine ⟨fun z => e2 ((lN_ne0 (by omega)).mp z), ?_⟩
          intro x5 e5
          rw [pk_lRem (by omega) (by omega) (by omega)] at e5
          rw [e5, nI_1]
          have hr2 : b % (a % b) < a % b := Nat.mod_lt _ (by omega)
          refine ih (a % b) (b % (a % b)) (i + 1 + 1) (by omega) ?_ (by omega) (by omega) ?_
          · rw [Nat.pow_succ] at hb
            rcases Nat.lt_or_ge (2 * (a % b)) b with y | y
            · omega
            · have : b % (a % b) ≤ b - a % b := by
                rw [Nat.mod_eq_sub_mod (by omega)]
                exact Nat.mod_le _ _
              omega
          · have g2 : Nat.gcd (a % b) (b % (a % b)) = Nat.gcd b (a % b) := by rw [Nat.gcd_comm, ← Nat.gcd_rec, Nat.gcd_comm]
            rw [g2, g1]; exact hK
  exact key 62 a b 0 ha hb (by omega) (by omega) h
