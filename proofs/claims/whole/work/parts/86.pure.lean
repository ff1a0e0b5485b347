/-! pure: the text: items of the class -/
theorem p_rdS {len : Int32} {ls : Nat → Int32} {c : Nat} {t : Nat → Nat} {k i m : Nat} {nums : Nat → Int32} {K : Int32 → (Nat → Int32) → Prop} {J5 : Int32 → Int32 → (Nat → Int32) → Prop} (h : rX len ls c t) (hV : XV c t) (hk : k < 900) (hi : i < m) (hm : m ≤ 3)
    (hJ : ∀ (v_1 : Int32) (v_2 : Int32) (t_numbers_3 : Nat → Int32), (if nI m ≤ v_2 then (if nI m ≤ 0 then K (-1) t_numbers_3 else K v_1 t_numbers_3) else (wpX6_figureAt len ls v_1 (fun (r_4 : Int32) => (if 0 ≤ r_4 then (wpX6_figureAt len ls (v_1 + 1) (fun (r_5 : Int32) => (∀ J53 : Int32 → Int32 → Prop, (∀ (v_6 : Int32) (v_7 : Int32), (wpX8_put 3 t_numbers_3 v_2 v_7 (fun (t_numbers_8 : Nat → Int32) => (wpX6_letterAt len ls v_6 (fun (r_9 : Int32) => (∀ J84 : Int32 → Prop, (∀ (v_10 : Int32), (if r_9 = v_10 then J5 (v_6 + 1) (v_2 + 1) t_numbers_8 else K (-1) t_numbers_8) → J84 v_10) → (if v_2 = (nI m - 1) then J84 59 else J84 44)))))) → J53 v_6 v_7) → (if r_5 < 0 then J53 (v_1 + 1) r_4 else (∀ x_11 : Int32, x_11 = ((10 * r_4) + r_5) → J53 ((v_1 + 1) + 1) x_11))))) else K (-1) t_numbers_3)))) → J5 v_1 v_2 t_numbers_3)
    (hy : ∀ v k', rdN c t k (if i + 1 = m then 59 else 44) = some (v, k') → J5 (nI k') (nI (i + 1)) (upd nums i (nI v))) (hn : rdN c t k (if i + 1 = m then 59 else 44) = none → ∀ n', K (-1) n') : J5 (nI k) (nI i) nums := by
  refine hJ _ _ _ (it_le (by omega) (by omega) (fun y => absurd y (by omega)) (fun _ => ?_))
  refine p_figureAt h hV (by omega) (fun a ea => ?_) (fun ea => ?_)
  · have ha := fg_lt ea
    rw [if_pos (nI_pos' (by omega))]
    have last : ∀ v j, v < 100 → j < 950 → (lt c t j = (if i + 1 = m then 59 else 44) → rdN c t k (if i + 1 = m then 59 else 44) = some (v, j + 1)) → (lt c t j ≠ (if i + 1 = m then 59 else 44) → rdN c t k (if i + 1 = m then 59 else 44) = none) → (wpX8_put 3 nums (nI i) (nI v) (fun (t_numbers_8 : Nat → Int32) => (wpX6_letterAt len ls (nI j) (fun (r_9 : Int32) => (∀ J84 : Int32 → Prop, (∀ (v_10 : Int32), (if r_9 = v_10 then J5 (nI j + 1) (nI i + 1) t_numbers_8 else K (-1) t_numbers_8) → J84 v_10) → (if nI i = (nI m - 1) then J84 59 else J84 44)))))) := by
      intro v j hv hj h1 h2
      refine p_put (by omega) (by decide) (p_letterAt h (by omega) ?_)
      intro J84 h84
      have hl := lt_lt hV j
      have go : ∀ e, e = (if i + 1 = m then 59 else 44) → J84 (nI e) := by
        intro e ee
        have he : e < 100 := by rw [ee]; split <;> omega
        refine h84 _ (it_eq (by omega) (by omega) (fun q => ?_) (fun q => ?_))
        · rw [nI_1, nI_1]
          exact hy _ _ (h1 (by rw [q, ee]))
        · exact hn (h2 (by rw [← ee]; exact q)) _
      rw [nI_p1 (by omega)]
      refine it_eq (by omega) (by omega) (fun q => go 59 (by rw [if_pos (by omega)])) (fun q => go 44 (by rw [if_neg (by omega)]))
    rw [nI_1]
    refine p_figureAt h hV (by omega) (fun b eb => ?_) (fun eb => ?_)
    · have hb := fg_lt eb
      intro J53 h53
      rw [if_neg (nI_pos (by omega))]
      intro x11 e11
      rw [m10, nI_add] at e11
      subst e11
      refine h53 _ _ ?_
      rw [nI_1]
      refine last (10 * a + b) (k + 1 + 1) (by omega) (by omega) (fun q => ?_) (fun q => ?_)
      · unfold rdN
        rw [ea]
        dsimp only
        rw [eb]
        dsimp only
        rw [if_pos q]
      · unfold rdN
        rw [ea]
        dsimp only
        rw [eb]
        dsimp only
        rw [if_neg q]
    · intro J53 h53
      rw [if_pos (show (-1 : Int32) < 0 by decide)]
      refine h53 _ _ ?_
      refine last a (k + 1) (by omega) (by omega) (fun q => ?_) (fun q => ?_)
      · unfold rdN
        rw [ea]
        dsimp only
        rw [eb]
        dsimp only
        rw [if_pos q]
      · unfold rdN
        rw [ea]
        dsimp only
        rw [eb]
        dsimp only
        rw [if_neg q]
  · rw [if_neg (show ¬ (0 : Int32) ≤ -1 by decide)]
    refine hn ?_ _
    unfold rdN
    rw [ea]
theorem p_rn0 {len : Int32} {ls : Nat → Int32} {k : Nat} {nums : Nat → Int32} {K : Int32 → (Nat → Int32) → Prop} (hK : ∀ n', K (-1) n') : wpX6_readNumbers len ls nums (nI k) 0 K := by
  unfold wpX6_readNumbers
  intro J hJ
  refine hJ _ _ _ ?_
  rw [if_pos (show (0 : Int32) ≤ 0 by decide), if_pos (show (0 : Int32) ≤ 0 by decide)]
  exact hK _
theorem p_rn1 {len : Int32} {ls : Nat → Int32} {c : Nat} {t : Nat → Nat} {k : Nat} {nums : Nat → Int32} {K : Int32 → (Nat → Int32) → Prop} (h : rX len ls c t) (hV : XV c t) (hk : k < 300)
    (hy : ∀ a k1, rdN c t k 59 = some (a, k1) → ∀ n', n' 0 = nI a → K (nI k1) n') (hn : rdN c t k 59 = none → ∀ n', K (-1) n') : wpX6_readNumbers len ls nums (nI k) 1 K := by
  unfold wpX6_readNumbers
  intro J hJ
  refine p_rdS (i := 0) (m := 1) h hV (by omega) (by omega) (by omega) hJ (fun a k1 e1 => ?_) (fun e1 => hn e1)
  refine hJ _ _ _ ?_
  rw [if_pos (show (1 : Int32) ≤ nI (0 + 1) by decide), if_neg (by decide)]
  exact hy a k1 e1 _ pk_us
theorem p_rn2 {len : Int32} {ls : Nat → Int32} {c : Nat} {t : Nat → Nat} {k : Nat} {nums : Nat → Int32} {K : Int32 → (Nat → Int32) → Prop} (h : rX len ls c t) (hV : XV c t) (hk : k < 300)
    (hy : ∀ a k1 b k2, rdN c t k 44 = some (a, k1) → rdN c t k1 59 = some (b, k2) → ∀ n', n' 0 = nI a → n' 1 = nI b → K (nI k2) n') (hn : (∀ a k1, rdN c t k 44 = some (a, k1) → rdN c t k1 59 = none) → ∀ n', K (-1) n') : wpX6_readNumbers len ls nums (nI k) 2 K := by
  have hc := h.2.1
  unfold wpX6_readNumbers
  intro J hJ
  refine p_rdS (i := 0) (m := 2) h hV (by omega) (by omega) (by omega) hJ (fun a k1 e1 => ?_) (fun e1 => hn (fun a k1 q => by rw [show rdN c t k 44 = none from e1] at q; cases q))
  change rdN c t k 44 = some (a, k1) at e1
  have s1 := rdN_s (by omega) e1
  refine p_rdS (i := 1) (m := 2) h hV (by omega) (by omega) (by omega) hJ (fun b k2 e2 => ?_) (fun e2 => hn (fun a' k1' q => by rw [e1] at q; cases q; exact e2))
  refine hJ _ _ _ ?_
  rw [if_pos (show (2 : Int32) ≤ nI (1 + 1) by decide), if_neg (by decide)]
  exact hy a k1 b k2 e1 e2 _ (by rw [pk_un (by decide), pk_us]) pk_us
theorem p_rn3 {len : Int32} {ls : Nat → Int32} {c : Nat} {t : Nat → Nat} {k : Nat} {nums : Nat → Int32} {K : Int32 → (Nat → Int32) → Prop} (h : rX len ls c t) (hV : XV c t) (hk : k < 300)
    (hy : ∀ a k1 b k2 f k3, rdN c t k 44 = some (a, k1) → rdN c t k1 44 = some (b, k2) → rdN c t k2 59 = some (f, k3) → ∀ n', n' 0 = nI a → n' 1 = nI b → n' 2 = nI f → K (nI k3) n') (hn : (∀ a k1 b k2, rdN c t k 44 = some (a, k1) → rdN c t k1 44 = some (b, k2) → rdN c t k2 59 = none) → ∀ n', K (-1) n') : wpX6_readNumbers len ls nums (nI k) 3 K := by
  have hc := h.2.1
  unfold wpX6_readNumbers
  intro J hJ
  refine p_rdS (i := 0) (m := 3) h hV (by omega) (by omega) (by omega) hJ (fun a k1 e1 => ?_) (fun e1 => hn (fun a k1 b k2 q => by rw [show rdN c t k 44 = none from e1] at q; cases q))
  change rdN c t k 44 = some (a, k1) at e1
  have s1 := rdN_s (by omega) e1
  refine p_rdS (i := 1) (m := 3) h hV (by omega) (by omega) (by omega) hJ (fun b k2 e2 => ?_) (fun e2 => hn (fun a' k1' b' k2' q q2 => by rw [e1] at q; cases q; rw [show rdN c t k1 44 = none from e2] at q2; cases q2))
  change rdN c t k1 44 = some (b, k2) at e2
  have s2 := rdN_s (by omega) e2
  refine p_rdS (i := 2) (m := 3) h hV (by omega) (by omega) (by omega) hJ (fun f k3 e3 => ?_) (fun e3 => hn (fun a' k1' b' k2' q q2 => by rw [e1] at q; cases q; rw [e2] at q2; cases q2; exact e3))
  refine hJ _ _ _ ?_
  rw [if_pos (show (3 : Int32) ≤ nI (2 + 1) by decide), if_neg (by decide)]
  exact hy a k1 b k2 f k3 e1 e2 e3 _ (by rw [pk_un (by decide), pk_un (by decide), pk_us]) (by rw [pk_un (by decide), pk_us]) pk_us
