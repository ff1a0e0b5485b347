/-! pure: loops, rows, numbers -/
theorem kloop {J : Nat → Prop} {N : Nat} (hend : J N) (hstep : ∀ k, k < N → J (k + 1) → J k) : J 0 := by
  have key : ∀ n k, k + n = N → J k := by
    intro n
    induction n with
    | zero => intro k hk; rw [show k = N by omega]; exact hend
    | succ n ih => intro k hk; exact hstep k (by omega) (ih (k + 1) (by omega))
  exact key N 0 (by omega)
theorem kloopA {J : Nat → Prop} (a N : Nat) (ha : a ≤ N) (hend : J N) (hstep : ∀ k, a ≤ k → k < N → J (k + 1) → J k) : J a := by
  have key : ∀ n k, a ≤ k → k + n = N → J k := by
    intro n
    induction n with
    | zero => intro k _ hk; rw [show k = N by omega]; exact hend
    | succ n ih => intro k h0 hk; exact hstep k h0 (by omega) (ih (k + 1) (by omega) (by omega))
  exact key (N - a) a (Nat.le_refl a) (by omega)
def Rp (n : Nat) (f : Nat → Int32) (g : Nat → Nat) : Prop := ∀ k, k < n → f k = nI (g k)
def uA (g : Nat → Nat) (j v : Nat) : Nat → Nat := fun k => if k = j then v else g k
theorem uA_s (g : Nat → Nat) (j v : Nat) : uA g j v j = v := if_pos rfl
theorem uA_n (g : Nat → Nat) {j k : Nat} (v : Nat) (h : k ≠ j) : uA g j v k = g k := if_neg h
theorem Rp.upd {n : Nat} {f : Nat → Int32} {g : Nat → Nat} (h : Rp n f g) (j v : Nat) : Rp n (upd f j (nI v)) (uA g j v) := by
  intro k hk
  by_cases e : k = j
  · subst e
    rw [pk_us, uA_s]
  · rw [pk_un e, uA_n g v e, h k hk]
theorem it_le {a b : Nat} {A B : Prop} (ha : a < 2 ^ 31) (hb : b < 2 ^ 31) (h1 : a ≤ b → A) (h2 : b < a → B) : if nI a ≤ nI b then A else B := by
  by_cases h : a ≤ b
  · rw [if_pos ((nI_leI ha hb).mpr h)]; exact h1 h
  · rw [if_neg (fun q => h ((nI_leI ha hb).mp q))]; exact h2 (by omega)
theorem it_lt {a b : Nat} {A B : Prop} (ha : a < 2 ^ 31) (hb : b < 2 ^ 31) (h1 : a < b → A) (h2 : b ≤ a → B) : if nI a < nI b then A else B := by
  by_cases h : a < b
  · rw [if_pos ((nI_ltI ha hb).mpr h)]; exact h1 h
  · rw [if_neg (fun q => h ((nI_ltI ha hb).mp q))]; exact h2 (by omega)
theorem it_eq {a b : Nat} {A B : Prop} (ha : a < 2 ^ 31) (hb : b < 2 ^ 31) (h1 : a = b → A) (h2 : a ≠ b → B) : if nI a = nI b then A else B := by
  by_cases h : a = b
  · rw [if_pos ((nI_eq ha hb).mpr h)]; exact h1 h
  · rw [if_neg (fun q => h ((nI_eq ha hb).mp q))]; exact h2 h
theorem p_at {n j : Nat} {f : Nat → Int32} {K : Int32 → Prop} (hj : j < n) (hn : n < 2 ^ 31) (h : K (f j)) : wpX8_at n f (nI j) K := by
  unfold wpX8_at
  rw [if_neg (nI_pos (show j < 2 ^ 31 by omega)), if_neg (show ¬ Int32.ofNat n ≤ nI j from nI_ge hj hn)]
  exact ⟨nI_in hj hn, by rw [nI_clamp (by omega)]; exact h⟩
theorem p_put {n j : Nat} {f : Nat → Int32} {x : Int32} {K : (Nat → Int32) → Prop} (hj : j < n) (hn : n < 2 ^ 31) (h : K (upd f j x)) : wpX8_put n f (nI j) x K := by
  unfold wpX8_put
  rw [if_neg (nI_pos (show j < 2 ^ 31 by omega)), if_neg (show ¬ Int32.ofNat n ≤ nI j from nI_ge hj hn)]
  exact ⟨nI_in hj hn, by rw [nI_clamp (by omega)]; exact h⟩
theorem p_at_ {n j : Nat} {f : Nat → Int64} {K : Int64 → Prop} (hj : j < n) (hn : n < 2 ^ 31) (h : K (f j)) : wpX8_at_ n f (nI j) K := by
  unfold wpX8_at_
  intro J _
  rw [if_neg (nI_pos (show j < 2 ^ 31 by omega)), if_neg (show ¬ Int32.ofNat n ≤ nI j from nI_ge hj hn)]
  exact ⟨nI_in hj hn, by rw [nI_clamp (by omega)]; exact h⟩
theorem p_put_ {n j : Nat} {f : Nat → Int64} {x : Int64} {K : (Nat → Int64) → Prop} (hj : j < n) (hn : n < 2 ^ 31) (h : K (vp_updL f j x)) : wpX8_put_ n f (nI j) x K := by
  unfold wpX8_put_
  rw [if_neg (nI_pos (show j < 2 ^ 31 by omega)), if_neg (show ¬ Int32.ofNat n ≤ nI j from nI_ge hj hn)]
  exact ⟨nI_in hj hn, by rw [nI_clamp (by omega)]; exact h⟩
theorem p_atR {n m j : Nat} {f : Nat → Int32} {g : Nat → Nat} {K : Int32 → Prop} (hf : Rp m f g) (hj : j < n) (hm : j < m) (hn : n < 2 ^ 31) (h : K (nI (g j))) : wpX8_at n f (nI j) K :=
  p_at hj hn (by rw [hf j hm]; exact h)
theorem e8 (p n : Nat) : (8 : Int32) * nI p + nI n = nI (8 * p + n) := by
  rw [show (8 : Int32) = nI 8 from rfl, pk_mul, nI_add]
/-! numbers of callers -/
def pop8 (a : Nat) : Nat := a % 2 + a / 2 % 2 + a / 4 % 2 + a / 8 % 2 + a / 16 % 2 + a / 32 % 2 + a / 64 % 2 + a / 128 % 2
def bcF (a0 : Int32) : Int32 :=
  let x1 := (a0 - (((a0.toUInt32 >>> (Int32.toUInt32 1 &&& Int32.toUInt32 31)).toInt32) &&& 1431655765))
  let x2 := ((x1 &&& 858993459) + (((x1.toUInt32 >>> (Int32.toUInt32 2 &&& Int32.toUInt32 31)).toInt32) &&& 858993459))
  let x3 := ((x2 + ((x2.toUInt32 >>> (Int32.toUInt32 4 &&& Int32.toUInt32 31)).toInt32)) &&& 252645135)
  let x4 := (x3 + ((x3.toUInt32 >>> (Int32.toUInt32 8 &&& Int32.toUInt32 31)).toInt32))
  let x5 := (x4 + ((x4.toUInt32 >>> (Int32.toUInt32 16 &&& Int32.toUInt32 31)).toInt32))
  x5 &&& 63
theorem bc_all : ∀ a, a < 256 → bcF (nI a) = nI (pop8 a) := by decide +kernel
theorem p_bit32 {a : Nat} {K : Int32 → Prop} (ha : a < 256) (h : K (nI (pop8 a))) : wpJ6_bitCount_0f7a4 (nI a) K := by
  unfold wpJ6_bitCount_0f7a4
  intro x1 e1 x2 e2 x3 e3 x4 e4 x5 e5
  have e : x5 &&& 63 = nI (pop8 a) := by
    rw [← bc_all a ha, e5, e4, e3, e2, e1]
    rfl
  rw [e]
  exact h
theorem pop8_6 : ∀ a, a < 64 → pop8 a < 7 := by decide +kernel
theorem pop8_8 : ∀ a, a < 256 → pop8 a < 9 := by decide +kernel
def cal (R n : Nat) : Nat := R / 2 ^ (6 * n) % 64
theorem cal_lt (R n : Nat) : cal R n < 64 := Nat.mod_lt _ (by decide)
theorem nI_m64 (x : Nat) : nI x &&& 63 = nI (x % 64) := by
  rw [show (63 : Int32) = nI 63 from rfl, nx_and, show (63 : Nat) = 2 ^ 6 - 1 from rfl, Nat.and_two_pow_sub_one_eq_mod]
theorem p_callers {R n : Nat} {K : Int32 → Prop} (hR : R < 2 ^ 64) (hn : n < 8) (h : K (nI (cal R n))) : wpX7_callers (lN R) (nI n) K := by
  unfold wpX7_callers
  have e : (6 : Int32) * nI n = nI (6 * n) := by rw [show (6 : Int32) = nI 6 from rfl, pk_mul]
  rw [e, wb_shr hR (by omega), lN_i, nI_m64]
  exact h
