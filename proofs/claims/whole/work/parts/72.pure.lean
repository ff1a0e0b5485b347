/-! pure: out -/
def oAway (P : aP) (w : aW) (st : aT) (p n t : Nat) : Bool := decide (itS (Dp P w p) (st p) t n = 0)
def okC (P : aP) (p a : Nat) : Bool := decide (a / 8 < Pnp P) && decide (a / 8 ≠ p) && decide (a % 8 < Pnn P)
def wfc (w : aW) (p a : Nat) : aW := wf w (a / 8) p (a % 8)
def o1 (P : aP) (w : aW) (st : aT) (p n t a : Nat) : Bool := okC P p a && oAway P (wfc w p a) st p n t
def o2 (P : aP) (w : aW) (st : aT) (p n t a b : Nat) : Bool := decide (a < b) && okC P p a && okC P p b && oAway P (wfc (wfc w p a) p b) st p n t
def shw (a : Nat) : Nat := 10 * (a / 8) + a % 8
theorem okC_t {P : aP} {p a : Nat} (h : okC P p a = true) : a / 8 < Pnp P ∧ a / 8 ≠ p ∧ a % 8 < Pnn P := by
  unfold okC at h
  rw [Bool.and_eq_true, Bool.and_eq_true, decide_eq_true_eq, decide_eq_true_eq, decide_eq_true_eq] at h
  exact ⟨h.1.1, h.1.2, h.2⟩
theorem okC_f {P : aP} {p a : Nat} (h : ¬ (a / 8 < Pnp P ∧ a / 8 ≠ p ∧ a % 8 < Pnn P)) : okC P p a = false := by
  cases e : okC P p a with
  | false => rfl
  | true => exact absurd (okC_t e) h
theorem okC_i {P : aP} {p a : Nat} (h1 : a / 8 < Pnp P) (h2 : a / 8 ≠ p) (h3 : a % 8 < Pnn P) : okC P p a = true := by
  unfold okC
  rw [decide_eq_true h1, decide_eq_true h2, decide_eq_true h3]
  rfl
theorem WF_flip {P : aP} {w : aW} (h : WF P w) {i j n : Nat} (hi : i < Pnp P) (hj : j < Pnp P) (hij : i ≠ j) (hn : n < Pnn P) : WF P (wf w i j n) := by
  intro a b c e
  unfold wf at e
  split at e
  · rename_i q
    obtain ⟨q1, q2, q3⟩ := q
    subst q1; subst q2; subst q3
    exact ⟨hi, hj, hij, hn⟩
  · exact h a b c e
theorem WF_c {P : aP} {w : aW} (h : WF P w) {p a : Nat} (hp : p < Pnp P) (ha : okC P p a = true) : WF P (wfc w p a) := by
  have := okC_t ha
  exact WF_flip h this.1 hp this.2.1 this.2.2
theorem p_choice {P : aP} {p a : Nat} {K : Int64 → Prop} (hP : PV1 P) (hp : p < 6) (ha : a < 8 * Pnp P) (h0 : okC P p a = false → K 0) (h1 : okC P p a = true → K (lN (2 ^ (6 * (a % 8) + a / 8)))) : wpX1_choice (nI (Pnn P)) (nI p) (nI a) K := by
  have h6 := hP.1.1
  have h8 := hP.1.2.1
  unfold wpX1_choice
  intro x1 e1 x2 e2
  rw [show (8 : Int32) = nI 8 from rfl, pk_div (by omega) (by omega) (by omega)] at e1
  rw [show (8 : Int32) = nI 8 from rfl, pk_rem (by omega) (by omega) (by omega)] at e2
  subst e1; subst e2
  intro J hJ
  refine it_eq (by omega) (by omega) (fun z => hJ (h0 (okC_f (fun y => y.2.1 z)))) (fun z => ?_)
  refine it_le (by omega) (by omega) (fun y => hJ (h0 (okC_f (fun q => by omega)))) (fun y => ?_)
  exact p_bit (by omega) (by omega) (h1 (okC_i (by omega) z y))
theorem p_isAway {P : aP} {w w' : aW} {st : aT} {p n t : Nat} {A : Int64} {np nn q : Int32} {hs kinds beds foods pu pe f : Nat → Int32} {rows : Nat → Int64} {K : Int32 → Int32 → Int32 → Int32 → Int64 → (Nat → Int32) → Prop} (hP : PV1 P) (hR : rPt P np nn q kinds beds foods pu pe) (hwr : rW rows w) (h : rD f st) (hv : ∀ p, V (st p)) (hz : ∀ p, Z (Pnn P) (st p)) (hp : p < Pnp P) (hn : n < 8) (ht : t < 100) (hA : lN (wr w p) ^^^ A = lN (wr w' p))
    (hK : ∀ a b c e g, K (if oAway P w' st p n t then 1 else 0) a b c e g) : wpX1_isAway nn q kinds beds foods pu pe rows f hs (nI p) (nI n) (nI t) A K := by
  unfold wpX1_isAway
  refine p_enter hP.1 hR hp hwr h ?_
  intro g hg
  rw [hA]
  refine p_hpassDays (w := w') (p := p) hP.1 hR ht (hv p) (hz p) hg ?_
  intro g2 hg2
  refine p_atR hg2 hn hn (by decide) ?_
  have hb := itS_V (Dp_V (P := P) (w := w') (p := p)) (hv p) t n
  refine it_eq (b := 0) (by omega) (by omega) (fun z => ?_) (fun z => ?_)
  · have e : oAway P w' st p n t = true := decide_eq_true z
    rw [e] at hK
    exact hK _ _ _ _ _
  · have e : oAway P w' st p n t = false := decide_eq_false z
    rw [e] at hK
    exact hK _ _ _ _ _
theorem cmp0 (x : Nat) (hx : x < 2 ^ 63) : (lg_cmp (lN x) 0 = 0) ↔ x = 0 := by
  rw [lg_cmp_eq]
  exact lN_ne0 hx
theorem wfc_row (w : aW) {p a : Nat} (h : a < 48) : lN (wr w p) ^^^ lN (2 ^ (6 * (a % 8) + a / 8)) = lN (wr (wfc w p a) p) := by
  rw [lN_xor]
  unfold wfc
  rw [wr_wf w _ _ _ (by omega) (by omega)]
theorem wfc_row2 (w : aW) {p a b : Nat} (ha : a < 48) (hb : b < 48) (hab : a < b) : lN (wr w p) ^^^ (lN (2 ^ (6 * (a % 8) + a / 8)) ||| lN (2 ^ (6 * (b % 8) + b / 8))) = lN (wr (wfc (wfc w p a) p b) p) := by
  have h1 : 2 ^ (6 * (a % 8) + a / 8) < 2 ^ 64 := Nat.pow_lt_pow_right (by decide) (by omega)
  have h2 : 2 ^ (6 * (b % 8) + b / 8) < 2 ^ 64 := Nat.pow_lt_pow_right (by decide) (by omega)
  rw [← wfc_row _ hb, ← wfc_row _ ha, wb_or h1 h2, lN_xor, lN_xor, lN_xor, Nat.xor_assoc]
  congr 2
  apply Nat.eq_of_testBit_eq
  intro j
  rw [Nat.testBit_or, Nat.testBit_xor, Nat.testBit_two_pow, Nat.testBit_two_pow]
  by_cases y : 6 * (a % 8) + a / 8 = j
  · rw [decide_eq_true y, decide_eq_false (show ¬ 6 * (b % 8) + b / 8 = j by omega)]; rfl
  · rw [decide_eq_false y]; simp
