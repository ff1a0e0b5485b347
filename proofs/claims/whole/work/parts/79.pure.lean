/-! pure: subsets of the words about a person, in two orders -/
def HL (R : Nat) : List Nat → (Nat → Nat) → Nat
  | [], F => F R
  | b :: l, F => HL R l (fun S => F (S ^^^ 2 ^ b) + F S)
theorem HL_perm (R : Nat) {l l' : List Nat} (h : List.Perm l l') : ∀ F, HL R l F = HL R l' F := by
  induction h with
  | nil => intro F; rfl
  | cons b _ ih => intro F; exact ih _
  | swap b c l =>
    intro F
    show HL R l _ = HL R l _
    congr 1
    funext S
    show F (S ^^^ 2 ^ b ^^^ 2 ^ c) + F (S ^^^ 2 ^ b) + (F (S ^^^ 2 ^ c) + F S) = F (S ^^^ 2 ^ c ^^^ 2 ^ b) + F (S ^^^ 2 ^ c) + (F (S ^^^ 2 ^ b) + F S)
    rw [show S ^^^ 2 ^ b ^^^ 2 ^ c = S ^^^ 2 ^ c ^^^ 2 ^ b by rw [Nat.xor_assoc, Nat.xor_comm (2 ^ b), ← Nat.xor_assoc]]
    omega
  | trans _ _ i1 i2 => intro F; rw [i1, i2]
theorem and2 {a b x y : Nat} (hx : x < 2) (hy : y < 2) : (2 * a + x) &&& (2 * b + y) = 2 * (a &&& b) + (x &&& y) := by
  have hxy : x &&& y < 2 := Nat.lt_of_le_of_lt Nat.and_le_left hx
  apply Nat.eq_of_testBit_eq
  intro i
  cases i with
  | zero =>
    rw [Nat.testBit_and, Nat.testBit_zero, Nat.testBit_zero, Nat.testBit_zero, show (2 * a + x) % 2 = x by omega, show (2 * b + y) % 2 = y by omega, show (2 * (a &&& b) + (x &&& y)) % 2 = x &&& y by omega]
    rcases (show x = 0 ∨ x = 1 by omega) with e | e <;> rcases (show y = 0 ∨ y = 1 by omega) with e2 | e2 <;> subst e <;> subst e2 <;> rfl
  | succ i =>
    rw [Nat.testBit_and, Nat.testBit_succ, Nat.testBit_succ, Nat.testBit_succ, show (2 * a + x) / 2 = a by omega, show (2 * b + y) / 2 = b by omega, show (2 * (a &&& b) + (x &&& y)) / 2 = a &&& b by omega, Nat.testBit_and]
theorem xor2 {v r b : Nat} (hr : r < 2) : (2 * v + r) ^^^ 2 ^ (b + 1) = 2 * (v ^^^ 2 ^ b) + r := by
  apply Nat.eq_of_testBit_eq
  intro i
  cases i with
  | zero =>
    rw [Nat.testBit_xor, Nat.testBit_two_pow, Nat.testBit_zero, Nat.testBit_zero, decide_eq_false (show ¬ b + 1 = 0 by omega), show (2 * v + r) % 2 = r by omega, show (2 * (v ^^^ 2 ^ b) + r) % 2 = r by omega, Bool.xor_false]
  | succ i =>
    rw [Nat.testBit_xor, Nat.testBit_two_pow, Nat.testBit_succ, Nat.testBit_succ, show (2 * v + r) / 2 = v by omega, show (2 * (v ^^^ 2 ^ b) + r) / 2 = v ^^^ 2 ^ b by omega, Nat.testBit_xor, Nat.testBit_two_pow, decide_eq_decide.mpr (show b + 1 = i + 1 ↔ b = i by omega)]
/-- how many of the low b bits stand -/
def pc : Nat → Nat → Nat
  | 0, _ => 0
  | b + 1, R => R % 2 + pc b (R / 2)
/-- the k-th set of these bits, from all of them down -/
def en : Nat → Nat → Nat → Nat
  | 0, _, _ => 0
  | b + 1, R, k => if R % 2 = 1 then 2 * en b (R / 2) (k / 2) + (1 - k % 2) else 2 * en b (R / 2) k
def bl : Nat → Nat → List Nat
  | 0, _ => []
  | b + 1, R => if R % 2 = 1 then 0 :: (bl b (R / 2)).map (· + 1) else (bl b (R / 2)).map (· + 1)
theorem en_s (b R k : Nat) : en (b + 1) R k = if R % 2 = 1 then 2 * en b (R / 2) (k / 2) + (1 - k % 2) else 2 * en b (R / 2) k := rfl
theorem bl_s (b R : Nat) : bl (b + 1) R = if R % 2 = 1 then 0 :: (bl b (R / 2)).map (· + 1) else (bl b (R / 2)).map (· + 1) := rfl
theorem en_0 : ∀ b R, R < 2 ^ b → en b R 0 = R := by
  intro b
  induction b with
  | zero => intro R h; show 0 = R; omega
  | succ b ih =>
    intro R h
    have := ih (R / 2) (by rw [Nat.pow_succ] at h; omega)
    unfold en
    split
    · rw [show 0 / 2 = 0 from rfl, this]; omega
    · rw [this]; omega
theorem en_sub : ∀ b R k, en b R k &&& R = en b R k := by
  intro b
  induction b with
  | zero => intro R k; show 0 &&& R = 0; exact Nat.zero_and R
  | succ b ih =>
    intro R k
    unfold en
    split
    · rename_i h
      have := and2 (a := en b (R / 2) (k / 2)) (b := R / 2) (x := 1 - k % 2) (y := 1) (by omega) (by omega)
      rw [show 2 * (R / 2) + 1 = R by omega, ih] at this
      rw [this]
      rcases (show k % 2 = 0 ∨ k % 2 = 1 by omega) with e | e <;> rw [e] <;> rfl
    · rename_i h
      have := and2 (a := en b (R / 2) k) (b := R / 2) (x := 0) (y := 0) (by omega) (by omega)
      rw [show 2 * (R / 2) + 0 = R by omega, ih] at this
      exact this
theorem en_next : ∀ b R k, k + 1 < 2 ^ pc b R → 1 ≤ en b R k ∧ (en b R k - 1) &&& R = en b R (k + 1) := by
  intro b
  induction b with
  | zero => intro R k h; exact absurd h (by show ¬ k + 1 < 1; omega)
  | succ b ih =>
    intro R k h
    have hu : pc (b + 1) R = R % 2 + pc b (R / 2) := rfl
    rw [hu] at h
    unfold en
    split
    · rename_i hr
      rw [hr, Nat.add_comm 1, Nat.pow_succ] at h
      rcases (show k % 2 = 0 ∨ k % 2 = 1 by omega) with e | e
      · have := and2 (a := en b (R / 2) (k / 2)) (b := R / 2) (x := 0) (y := 1) (by omega) (by omega)
        rw [show 2 * (R / 2) + 1 = R by omega, en_sub] at this
        rw [show (k + 1) / 2 = k / 2 by omega, e, show (k + 1) % 2 = 1 by omega]
        refine ⟨by omega, ?_⟩
        rw [show 2 * en b (R / 2) (k / 2) + (1 - 0) - 1 = 2 * en b (R / 2) (k / 2) + 0 by omega, this]
        rfl
      · obtain ⟨h1, h2⟩ := ih (R / 2) (k / 2) (by omega)
        have := and2 (a := en b (R / 2) (k / 2) - 1) (b := R / 2) (x := 1) (y := 1) (by omega) (by omega)
        rw [show 2 * (R / 2) + 1 = R by omega, h2] at this
        rw [show (k + 1) / 2 = k / 2 + 1 by omega, e, show (k + 1) % 2 = 0 by omega]
        refine ⟨by omega, ?_⟩
        rw [show 2 * en b (R / 2) (k / 2) + (1 - 1) - 1 = 2 * (en b (R / 2) (k / 2) - 1) + 1 by omega, this]
        rfl
    · rename_i hr
      rw [show R % 2 = 0 by omega, Nat.zero_add] at h
      obtain ⟨h1, h2⟩ := ih (R / 2) k h
      have := and2 (a := en b (R / 2) k - 1) (b := R / 2) (x := 1) (y := 0) (by omega) (by omega)
      rw [show 2 * (R / 2) + 0 = R by omega, h2] at this
      refine ⟨by omega, ?_⟩
      rw [show 2 * en b (R / 2) k - 1 = 2 * (en b (R / 2) k - 1) + 1 by omega, this]
      rfl
theorem HL_map : ∀ (l : List Nat) (R r : Nat) (F : Nat → Nat), r < 2 → HL (2 * R + r) (l.map (· + 1)) F = HL R l (fun v => F (2 * v + r)) := by
  intro l
  induction l with
  | nil => intro R r F h; rfl
  | cons b l ih =>
    intro R r F h
    show HL (2 * R + r) (l.map (· + 1)) (fun S => F (S ^^^ 2 ^ (b + 1)) + F S) = HL R l (fun S => F (2 * (S ^^^ 2 ^ b) + r) + F (2 * S + r))
    rw [ih R r _ h]
    congr 1
    funext v
    rw [xor2 h]
theorem en_sum : ∀ b R F, R < 2 ^ b → nsum (fun k => F (en b R k)) (2 ^ pc b R) = HL R (bl b R) F := by
  intro b
  induction b with
  | zero =>
    intro R F h
    show 0 + F 0 = F R
    rw [show R = 0 by omega]
    omega
  | succ b ih =>
    intro R F h
    have hR : R / 2 < 2 ^ b := by rw [Nat.pow_succ] at h; omega
    have hu : pc (b + 1) R = R % 2 + pc b (R / 2) := rfl
    rw [hu]
    rw [bl_s]
    by_cases hr : R % 2 = 1
    · rw [if_pos hr, hr, Nat.add_comm 1, Nat.pow_succ, nsum_mul]
      show _ = HL R ((bl b (R / 2)).map (· + 1)) (fun S => F (S ^^^ 2 ^ 0) + F S)
      have e := HL_map (bl b (R / 2)) (R / 2) 1 (fun S => F (S ^^^ 2 ^ 0) + F S) (by omega)
      rw [show 2 * (R / 2) + 1 = R by omega] at e
      rw [e, ← ih (R / 2) _ hR]
      refine nsum_congr (fun k _ => ?_)
      show 0 + F (en (b + 1) R (2 * k + 0)) + F (en (b + 1) R (2 * k + 1)) = _
      rw [en_s, en_s, if_pos hr, if_pos hr, show (2 * k + 0) / 2 = k by omega, show (2 * k + 1) / 2 = k by omega, show (2 * k + 0) % 2 = 0 by omega, show (2 * k + 1) % 2 = 1 by omega]
      have x1 : (2 * en b (R / 2) k + 1) ^^^ 2 ^ 0 = 2 * en b (R / 2) k := by
        apply Nat.eq_of_testBit_eq
        intro i
        cases i with
        | zero => rw [Nat.testBit_xor, Nat.testBit_two_pow, Nat.testBit_zero, Nat.testBit_zero, show (2 * en b (R / 2) k + 1) % 2 = 1 by omega, show (2 * en b (R / 2) k) % 2 = 0 by omega]; rfl
        | succ i => rw [Nat.testBit_xor, Nat.testBit_two_pow, Nat.testBit_succ, Nat.testBit_succ, decide_eq_false (show ¬ 0 = i + 1 by omega), Bool.xor_false, show (2 * en b (R / 2) k + 1) / 2 = en b (R / 2) k by omega, show (2 * en b (R / 2) k) / 2 = en b (R / 2) k by omega]
      rw [x1]
      show 0 + F (2 * en b (R / 2) k + 1) + F (2 * en b (R / 2) k + 0) = F (2 * en b (R / 2) k) + F (2 * en b (R / 2) k + 1)
      rw [Nat.zero_add]
      exact Nat.add_comm _ _
    · rw [if_neg hr, show R % 2 = 0 by omega, Nat.zero_add]
      have e := HL_map (bl b (R / 2)) (R / 2) 0 F (by omega)
      rw [show 2 * (R / 2) + 0 = R by omega] at e
      rw [e, ← ih (R / 2) _ hR]
      refine nsum_congr (fun k _ => ?_)
      rw [en_s, if_neg hr]
      rfl
theorem bl_filter : ∀ b R, bl b R = (List.range b).filter (fun k => R.testBit k) := by
  intro b
  induction b with
  | zero => intro R; rfl
  | succ b ih =>
    intro R
    rw [List.range_succ_eq_map, List.filter_cons, List.filter_map]
    have e : (fun k => R.testBit k) ∘ Nat.succ = fun k => (R / 2).testBit k := by
      funext k
      exact Nat.testBit_succ R k
    rw [e, ← ih]
    rw [bl_s]
    by_cases hr : R % 2 = 1
    · rw [if_pos hr, if_pos (by rw [Nat.testBit_zero]; exact decide_eq_true hr)]
    · rw [if_neg hr, if_neg (by rw [Nat.testBit_zero]; simp; omega)]
theorem pc_ns : ∀ b R, pc b R = nsum (fun n => bI (R.testBit n)) b := by
  intro b
  induction b with
  | zero => intro R; rfl
  | succ b ih =>
    intro R
    show R % 2 + pc b (R / 2) = _
    rw [ih, Nat.add_comm b 1, nsum_add]
    congr 1
    · show _ = 0 + bI (R.testBit 0)
      rw [Nat.testBit_zero]
      rcases (show R % 2 = 0 ∨ R % 2 = 1 by omega) with e | e <;> rw [e] <;> rfl
    · refine nsum_congr (fun k _ => ?_)
      rw [show 1 + k = k + 1 by omega, Nat.testBit_succ]
theorem bl_len : ∀ b R, (bl b R).length = pc b R := by
  intro b
  induction b with
  | zero => intro R; rfl
  | succ b ih =>
    intro R
    unfold bl pc
    split
    · rename_i h; rw [List.length_cons, List.length_map, ih, h]; omega
    · rename_i h; rw [List.length_map, ih, show R % 2 = 0 by omega]; omega
