/-! pure: the subsets in the order of the reference -/
def apN (g : Nat → Nat) (R k : Nat) : Nat → Nat
  | 0 => R
  | c + 1 => if k.testBit c then apN g R k c else apN g R k c ^^^ 2 ^ g c
def wN (x y k : Nat) : Nat → Nat
  | 0 => 1
  | c + 1 => wN x y k c * (if k.testBit c then x else y)
theorem apN_cong {g : Nat → Nat} {R k k' : Nat} : ∀ {c}, (∀ j, j < c → k.testBit j = k'.testBit j) → apN g R k c = apN g R k' c := by
  intro c
  induction c with
  | zero => intro _; rfl
  | succ c ih =>
    intro h
    unfold apN
    rw [ih (fun j hj => h j (by omega)), h c (by omega)]
theorem apN_sum (g : Nat → Nat) (R : Nat) : ∀ c F, nsum (fun k => F (apN g R k c)) (2 ^ c) = HL R ((List.range c).map g).reverse F := by
  intro c
  induction c with
  | zero =>
    intro F
    show 0 + F R = F R
    omega
  | succ c ih =>
    intro F
    rw [List.range_succ, List.map_append, List.reverse_append]
    show _ = HL R ((List.range c).map g).reverse (fun S => F (S ^^^ 2 ^ g c) + F S)
    rw [← ih, Nat.pow_succ, Nat.mul_comm, nsum_mul]
    show 0 + nsum (fun j => F (apN g R (2 ^ c * 0 + j) (c + 1))) (2 ^ c) + nsum (fun j => F (apN g R (2 ^ c * 1 + j) (c + 1))) (2 ^ c) = _
    rw [nsum_f2, Nat.zero_add]
    congr 1
    · refine nsum_congr (fun k hk => ?_)
      rw [Nat.mul_zero, Nat.zero_add]
      show F (if k.testBit c then _ else _) = _
      rw [Nat.testBit_lt_two_pow hk]
      rfl
    · refine nsum_congr (fun k hk => ?_)
      have e : ∀ j, (2 ^ c * 1 + k).testBit j = if j < c then k.testBit j else (1 : Nat).testBit (j - c) := fun j => Nat.testBit_two_pow_mul_add 1 hk j
      show F (if (2 ^ c * 1 + k).testBit c then _ else _) = _
      have ec : (2 ^ c * 1 + k).testBit c = true := by
        rw [e c, if_neg (Nat.lt_irrefl c), Nat.sub_self]
        decide
      rw [ec, if_pos rfl]
      congr 1
      refine apN_cong (fun j hj => ?_)
      rw [e j, if_pos hj]
theorem pop_xor {S b : Nat} (hb : b < 48) (h : S.testBit b = true) : pop48 (S ^^^ 2 ^ b) + 1 = pop48 S := by
  unfold pop48
  have key : ∀ n, b < n → nsum (fun k => bI ((S ^^^ 2 ^ b).testBit k)) n + 1 = nsum (fun k => bI (S.testBit k)) n := by
    intro n
    induction n with
    | zero => intro h; omega
    | succ n ih =>
      intro hn
      show nsum _ n + bI ((S ^^^ 2 ^ b).testBit n) + 1 = nsum _ n + bI (S.testBit n)
      by_cases e : b = n
      · subst e
        rw [Nat.testBit_xor, Nat.testBit_two_pow, decide_eq_true rfl, h]
        rw [nsum_congr (g := fun k => bI (S.testBit k)) (fun k hk => by rw [Nat.testBit_xor, Nat.testBit_two_pow, decide_eq_false (show ¬ b = k by omega), Bool.xor_false])]
        rfl
      · have := ih (by omega)
        rw [Nat.testBit_xor, Nat.testBit_two_pow, decide_eq_false e, Bool.xor_false]
        omega
  exact key 48 hb
/-- the bits g 0 .. of R are unlike and stand: what is left, and what its weight is -/
theorem apN_w {g : Nat → Nat} {R k m x y : Nat} (hg : ∀ c, c < m → g c < 48) (hR : ∀ c, c < m → R.testBit (g c) = true) (hu : ∀ a b, a < m → b < m → g a = g b → a = b) : ∀ c, c ≤ m → (∀ b, (∀ a, a < c → g a ≠ b) → (apN g R k c).testBit b = R.testBit b) ∧ ∃ d, d ≤ c ∧ pop48 (apN g R k c) + d = pop48 R ∧ wN x y k c = x ^ (c - d) * y ^ d := by
  intro c
  induction c with
  | zero => intro _; exact ⟨fun b _ => rfl, 0, Nat.le_refl 0, rfl, rfl⟩
  | succ c ih =>
    intro hc
    obtain ⟨i1, d, hd, i2, i3⟩ := ih (by omega)
    cases e : k.testBit c with
    | true =>
      have ea : apN g R k (c + 1) = apN g R k c := by unfold apN; rw [e, if_pos rfl]; cases c <;> rfl
      have ew : wN x y k (c + 1) = wN x y k c * x := by show wN x y k c * (if k.testBit c then x else y) = _; rw [e, if_pos rfl]
      rw [ea, ew]
      refine ⟨fun b hb => i1 b (fun a ha => hb a (by omega)), d, by omega, i2, ?_⟩
      rw [i3, show c + 1 - d = (c - d) + 1 by omega, Nat.pow_succ, Nat.mul_assoc, Nat.mul_assoc, Nat.mul_comm x]
    | false =>
      have ea : apN g R k (c + 1) = apN g R k c ^^^ 2 ^ g c := by show (if k.testBit c then _ else _) = _; rw [e]; rfl
      have ew : wN x y k (c + 1) = wN x y k c * y := by show wN x y k c * (if k.testBit c then x else y) = _; rw [e]; rfl
      have hs : (apN g R k c).testBit (g c) = true := by
        rw [i1 (g c) (fun a ha z => by have := hu a c (by omega) (by omega) z; omega)]
        exact hR c (by omega)
      have hp := pop_xor (hg c (by omega)) hs
      rw [ea, ew]
      refine ⟨fun b hb => ?_, d + 1, by omega, by omega, ?_⟩
      · rw [Nat.testBit_xor, Nat.testBit_two_pow, decide_eq_false (hb c (by omega)), Bool.xor_false]
        exact i1 b (fun a ha => hb a (by omega))
      · rw [i3, show c + 1 - (d + 1) = c - d by omega, Nat.pow_succ, Nat.mul_assoc]
theorem apN_end {g : Nat → Nat} {R k m x y : Nat} (hg : ∀ c, c < m → g c < 48) (hR : ∀ c, c < m → R.testBit (g c) = true) (hu : ∀ a b, a < m → b < m → g a = g b → a = b) (hm : m = pop48 R) : wN x y k m = x ^ pop48 (apN g R k m) * y ^ (m - pop48 (apN g R k m)) := by
  obtain ⟨_, d, hd, i2, i3⟩ := apN_w (x := x) (y := y) (k := k) hg hR hu m (Nat.le_refl m)
  rw [i3, show m - d = pop48 (apN g R k m) by omega, show m - pop48 (apN g R k m) = d by omega]
/-- the words about a person in the order of the reference -/
def wl (Q : Nat → Bool) (v : Nat) : List Nat := (List.range v).filter Q
theorem wl_s (Q : Nat → Bool) (v : Nat) : wl Q (v + 1) = if Q v then wl Q v ++ [v] else wl Q v := by
  unfold wl
  rw [List.range_succ, List.filter_append]
  cases h : Q v with
  | true => rw [if_pos rfl, List.filter_cons, h, if_pos rfl]; rfl
  | false => rw [List.filter_cons, h]; simp
def psn (v : Nat) : Nat := 6 * (v % 8) + v / 8
theorem psn_perm : ((List.range 48).map psn).Perm (List.range 48) := by decide +kernel
theorem wl_perm (R : Nat) : ((wl (fun v => R.testBit (psn v)) 48).map psn).Perm (bl 48 R) := by
  rw [bl_filter]
  have := psn_perm.filter (fun k => R.testBit k)
  rw [List.filter_map] at this
  exact this
theorem wl_len (R : Nat) : (wl (fun v => R.testBit (psn v)) 48).length = pop48 R := by
  have := (wl_perm R).length_eq
  rw [List.length_map, bl_len, pc_ns] at this
  exact this
