/-! pure: chance of the reference -/
theorem s_l12 : ∀ n, n < 13 → ((nI n &&& 31).toBitVec.smod 32).toNat = n := by decide +kernel
theorem sh_bit12 {x n : Nat} (hx : x < 5000) (hn : n < 13) : (nI x >>> (nI n &&& 31)) &&& 1 = nI (bI (x.testBit n)) := by
  rw [pk_shrN (by omega) (nI n &&& 31) n (s_l12 n hn), pk_andN (by have : x / 2 ^ n ≤ x := Nat.div_le_self _ _; omega) 1 (by decide), ← tb_div]
theorem p_gcd9 {c b k : Nat} {K : Int64 → Prop} (hc : c < 2 ^ 62) (hb0 : 0 < b) (hb : b < 2 ^ 62) (hK : K (chV c b k)) (hk : k < 100) :
    (∀ J313 : Int64 → Int64 → Prop, (∀ (v_15 : Int64) (v_16 : Int64), (if (lg_cmp v_16 0) ≤ 0 then (if nI k = 0 then ((¬ v_15 = 0) ∧ K (lN c / v_15)) else ((¬ v_15 = 0) ∧ K (lN b / v_15))) else ((¬ v_16 = 0) ∧ (∀ x_17 : Int64, x_17 = (v_15 - v_15 / v_16 * v_16) → J313 v_16 x_17))) → J313 v_15 v_16) → J313 (lN c) (lN b)) := by
  intro J hJ
  have hG : 0 < Nat.gcd c b := Nat.gcd_pos_of_pos_right _ hb0
  have hGb : Nat.gcd c b ≤ b := Nat.gcd_le_right _ hb0
  have key : ∀ n x y, y < n → x < 2 ^ 62 → y < 2 ^ 62 → Nat.gcd x y = Nat.gcd c b → J (lN x) (lN y) := by
    intro n
    induction n with
    | zero => intro x y h; exact absurd h (Nat.not_lt_zero _)
    | succ n ih =>
      intro x y hy hx hy2 hg
      refine hJ _ _ ?_
      by_cases e : y = 0
      · subst e
        rw [Nat.gcd_zero_right] at hg
        rw [if_pos (show lg_cmp (lN 0) 0 ≤ 0 by rw [lg_cmp_le]; exact (pk_lLE (a := 0) (b := 0) (by omega) (by omega)).mpr (Nat.le_refl 0)), hg]
        unfold chV at hK
        refine it_eq (b := 0) (by omega) (by omega) (fun q => ?_) (fun q => ?_)
        · rw [if_pos q] at hK
          refine ⟨fun z => by have := (lN_ne0 (by omega)).mp z; omega, ?_⟩
          rw [pk_lDiv (by omega) hG (by omega)]
          exact hK
        · rw [if_neg q] at hK
          refine ⟨fun z => by have := (lN_ne0 (by omega)).mp z; omega, ?_⟩
          rw [pk_lDiv (by omega) hG (by omega)]
          exact hK
      · rw [if_neg (show ¬ lg_cmp (lN y) 0 ≤ 0 by
          rw [lg_cmp_le]
          intro z
          have := (pk_lLE (a := y) (b := 0) (by omega) (by omega)).mp z
          omega)]
        refine ⟨fun z => e ((lN_ne0 (by omega)).mp z), ?_⟩
        intro x17 e17
        rw [pk_lRem (by omega) (by omega) (by omega)] at e17
        rw [e17]
        have hr : x % y < y := Nat.mod_lt _ (by omega)
        refine ih y (x % y) (by omega) hy2 (by omega) ?_
        rw [← hg, Nat.gcd_comm, ← Nat.gcd_rec, Nat.gcd_comm]
  exact key (b + 1) c b (by omega) hc hb rfl
/-- the words that are said, with those of a mask -/
def wap (w : aW) (p : Nat) (L : List Nat) (k : Nat) : Nat → aW
  | 0 => w
  | c + 1 => if k.testBit c then wap w p L k c else wfc (wap w p L k c) p (L.getD c 0)
theorem wap_row (w : aW) {p k : Nat} : ∀ c, c ≤ (wL (wr w p)).length → wr (wap w p (wL (wr w p)) k c) p = apN (wG (wr w p)) (wr w p) k c := by
  intro c
  induction c with
  | zero => intro _; rfl
  | succ c ih =>
    intro hc
    have hm := wl_mem (wr w p) (show c < (wL (wr w p)).length by omega)
    show wr (if k.testBit c then _ else _) p = if k.testBit c then _ else _
    split
    · exact ih (by omega)
    · unfold wfc
      rw [wr_wf _ _ _ _ (by omega) (by omega), ih (by omega)]
      rfl
theorem wap_WF {P : aP} {w : aW} {p k : Nat} (h : WF P w) (hp : p < Pnp P) (h6 : Pnp P ≤ 6) : ∀ c, c ≤ (wL (wr w p)).length → WF P (wap w p (wL (wr w p)) k c) := by
  intro c
  induction c with
  | zero => intro _; exact h
  | succ c ih =>
    intro hc
    have hm := wl_mem (wr w p) (show c < (wL (wr w p)).length by omega)
    have hb : w ((wL (wr w p)).getD c 0 / 8) p ((wL (wr w p)).getD c 0 % 8) = true := by
      rw [← wr_tb w p (i := (wL (wr w p)).getD c 0 / 8) (n := (wL (wr w p)).getD c 0 % 8) (by omega) (by omega)]
      exact hm.2
    have hh := h _ _ _ hb
    show WF P (if k.testBit c then _ else _)
    split
    · exact ih (by omega)
    · exact WF_flip (ih (by omega)) hh.1 hp hh.2.2.1 hh.2.2.2
theorem wl_getD (Q : Nat → Bool) (v : Nat) : (wl Q v).length ≤ v := by
  unfold wl
  exact Nat.le_trans (List.length_filter_le _ _) (by simp)
