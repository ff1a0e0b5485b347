/-! pure: said -/
/-- all that is seen would be so -/
abbrev soP (P : aP) (w : aW) (st : aT) (c : Nat) (g : Nat → Nat × Nat × Nat × Nat) : Prop := ∀ k, k < c → daysT P w st (g k).2.2.1 (g k).1 (g k).2.1 = (g k).2.2.2
theorem SV0_wu {P : aP} {w : aW} {st : aT} (h : SV0 P w st) {i j n : Nat} (hi : i < Pnp P) (hj : j < Pnp P) (hij : i ≠ j) (hn : n < Pnn P) : SV0 P (wu w i j n) st := by
  refine ⟨fun a b c e => ?_, h.2⟩
  unfold wu at e
  split at e
  · rename_i q
    obtain ⟨q1, q2, q3⟩ := q
    subst q1; subst q2; subst q3
    exact ⟨hi, hj, hij, hn⟩
  · exact h.1 a b c e
theorem p_holds8 {P : aP} {w w' : aW} {st : aT} {j c : Nat} {A : Int64} {g : Nat → Nat × Nat × Nat × Nat} {np nn q hk hb hf gm : Int32} {hw : Int64} {hs kinds beds foods pu pe f gp gn gd gs : Nat → Int32} {rows : Nat → Int64} {K : Int32 → Int32 → Int32 → Int32 → Int64 → (Nat → Int32) → Prop} (hP : PV1 P) (hR : rPt P np nn q kinds beds foods pu pe) (hwr : rW rows w) (h : rD f st) (hS : SV0 P w' st) (hG : rG gm gp gn gd gs c g) (hV : GV P c g) (hj : j < 6)
    (hrow : ∀ p, p < 6 → (if p = j then lN (wr w p) ||| A else lN (wr w p)) = lN (wr w' p))
    (h1 : soP P w' st c g → ∀ a b e i m, K 1 a b e i m) (h0 : ¬ soP P w' st c g → ∀ a b e i m, K 0 a b e i m) : wpX1_holds nn q kinds beds foods pu pe rows f hk hb hf hw hs gm gp gn gd gs (nI j) A K := by
  have h6 := hP.1.1
  have h8 := hP.1.2.1
  obtain ⟨g1, g2, g3⟩ := hG
  unfold wpX1_holds
  intro J hJ
  suffices key : ∀ a b e i m, soP P w' st 0 g → J (nI 0) a b e i m from key _ _ _ _ _ (fun k hk => absurd hk (by omega))
  refine kloop (J := fun k => ∀ a b e i m, soP P w' st k g → J (nI k) a b e i m) (N := c) ?_ ?_
  · intro a b e i m hso
    refine hJ _ _ _ _ _ _ ?_
    rw [g1]
    exact it_le (by omega) (by omega) (fun _ => h1 hso _ _ _ _ _) (fun z => absurd z (by omega))
  · intro k hkc hnx a b e i m hso
    refine hJ _ _ _ _ _ _ ?_
    rw [g1]
    refine it_le (by omega) (by omega) (fun z => absurd z (by omega)) (fun _ => ?_)
    obtain ⟨y1, y2, y3, y4⟩ := g3 k hkc
    obtain ⟨v1, v2, v3, v4⟩ := hV k hkc
    have hk6 : k < 6 := by omega
    refine p_at hk6 (by decide) ?_
    rw [y1]
    refine p_enter hP.1 hR v1 hwr h ?_
    intro g0 hg0
    intro J55 h55
    have e1 : ∀ hw2, hw2 = lN (wr w' (g k).1) → J55 hw2 := by
      intro hw2 ehw
      refine h55 _ ?_
      refine p_at hk6 (by decide) ?_
      rw [y3, ehw]
      refine p_hpassDays (w := w') (p := (g k).1) hP.1 hR (by omega) (hS.2.1 _) (hS.2.2.1 _) hg0 ?_
      intro g5 hg5
      refine p_at hk6 (by decide) ?_
      rw [y2]
      refine p_atR hg5 (by omega) (by omega) (by decide) ?_
      refine p_at hk6 (by decide) ?_
      rw [y4]
      have ed : daysT P w' st (g k).2.2.1 (g k).1 = itS (Dp P w' (g k).1) (st (g k).1) (g k).2.2.1 := if_pos v1
      have hv := itS_V (Dp_V (P := P) (w := w') (p := (g k).1)) (hS.2.1 (g k).1) (g k).2.2.1 (g k).2.1
      refine it_eq (by omega) (by omega) (fun z => ?_) (fun z => ?_)
      · rw [nI_1]
        refine hnx _ _ _ _ _ (fun k2 hk2 => ?_)
        rcases Nat.lt_or_ge k2 k with y | y
        · exact hso k2 y
        · rw [show k2 = k by omega, ed]; exact z
      · refine h0 (fun q => z ?_) _ _ _ _ _
        have := q k hkc
        rw [ed] at this
        exact this
    have hr := hrow (g k).1 (by omega)
    refine it_eq (by omega) (by omega) (fun z => e1 _ ?_) (fun z => e1 _ ?_)
    · rw [if_pos z] at hr; exact hr
    · rw [if_neg z] at hr; exact hr
def saidTo (P : aP) (w : aW) (st : aT) (i j c : Nat) (g : Nat → Nat × Nat × Nat × Nat) : Nat → Int32
  | 0 => if soP P w st c g then 256 else 0
  | n + 1 => if soP P (wu w i j n) st c g then saidTo P w st i j c g n ||| (1 <<< (nI n &&& 31)) else saidTo P w st i j c g n
def aSaid (P : aP) (w : aW) (st : aT) (c : Nat) (g : Nat → Nat × Nat × Nat × Nat) (x y : Int32) : Int32 := match iPP P x y with
  | some q => saidTo P w st q.1 q.2 c g (Pnn P)
  | none => -1
theorem c_said {P : aP} {w : aW} {st : aT} {c : Nat} {g : Nat → Nat × Nat × Nat × Nat} {np nn q hk hb hf gm : Int32} {hw : Int64} {hs kinds beds foods pu pe f gp gn gd gs : Nat → Int32} {rows : Nat → Int64} {x y : Int32} {K : Int32 → Int32 → Int32 → Int32 → Int64 → (Nat → Int32) → Prop} (hP : PV1 P) (hR : rPt P np nn q kinds beds foods pu pe) (hwr : rW rows w) (h : rD f st) (hS : SV P w st) (hG : rG gm gp gn gd gs c g) (hV : GV P c g)
    (hK : ∀ a b e i m, K (aSaid P w st c g x y) a b e i m) : wpX8_said np nn q kinds beds foods pu pe rows f hk hb hf hw hs gm gp gn gd gs x y K := by
  have h6 := hP.1.1
  have h8 := hP.1.2.1
  unfold wpX8_said
  unfold aSaid at hK
  rw [hR.1]
  refine p_isPair hP (fun v e => i1 ?_) (fun e => i0 (by rw [e] at hK; exact hK _ _ _ _ _))
  have hq := iPP_s hP e
  rw [e] at hK
  dsimp only at hK
  rw [hq.2.2.2.1, hq.2.2.2.2]
  refine p_holds8 (w' := w) (j := v.2) (A := 0) hP hR hwr h hS.z hG hV (by omega) (fun p hp => by split <;> simp) (fun hso a1 a2 a3 a4 a5 => ?_) (fun hso a1 a2 a3 a4 a5 => ?_)
  all_goals
    have ini : saidTo P w st v.1 v.2 c g 0 = if soP P w st c g then 256 else 0 := rfl
    first
    | rw [if_pos hso] at ini
    | rw [if_neg hso] at ini
    intro J34 h34
    first
    | refine i1 ?_
    | refine i0 ?_
    refine h34 _ ?_
    intro J hJ
    suffices key : J (saidTo P w st v.1 v.2 c g 0) (nI 0) a1 a2 a3 a4 a5 by
      rw [ini] at key
      exact key
    refine (kloop (J := fun k => ∀ a1 a2 a3 a4 a5, J (saidTo P w st v.1 v.2 c g k) (nI k) a1 a2 a3 a4 a5) (N := Pnn P) ?_ ?_) a1 a2 a3 a4 a5
    · intro a1 a2 a3 a4 a5
      refine hJ _ _ _ _ _ _ _ ?_
      rw [hR.2.1]
      exact it_le (by omega) (by omega) (fun _ => hK _ _ _ _ _) (fun z => absurd z (by omega))
    · intro k hk hnx a1 a2 a3 a4 a5
      refine hJ _ _ _ _ _ _ _ ?_
      have eNN := hR.2.1
      refine (show ∀ {A B : Prop}, B → (if nn ≤ nI k then A else B) from fun hb => by rw [eNN, if_neg (nI_ge hk (by omega))]; exact hb) ?_
      refine p_bit (by omega) (by omega) ?_
      have es : saidTo P w st v.1 v.2 c g (k + 1) = if soP P (wu w v.1 v.2 k) st c g then saidTo P w st v.1 v.2 c g k ||| (1 <<< (nI k &&& 31)) else saidTo P w st v.1 v.2 c g k := rfl
      refine p_holds8 (w' := wu w v.1 v.2 k) (j := v.2) hP hR hwr h (SV0_wu hS.z hq.1 hq.2.1 hq.2.2.1 hk) hG hV (by omega) (fun p hp => ?_) (fun hs2 b1 b2 b3 b4 b5 => ?_) (fun hs2 b1 b2 b3 b4 b5 => ?_)
      · by_cases z : p = v.2
        · subst z
          rw [if_pos rfl, wb_or (Nat.lt_of_lt_of_le (wr_lt w v.2) (by decide)) (Nat.lt_of_lt_of_le (two48 (by omega) (by omega)) (by decide)), ← wr_wu w v.1 v.2 k (by omega) (by omega)]
        · rw [if_neg z, wr_wu_o w v.1 k z]
      · intro J78 h78
        refine i1 ?_
        intro x24 e24
        refine h78 _ ?_
        rw [nI_1, e24]
        rw [if_pos hs2] at es
        rw [← es]
        exact hnx _ _ _ _ _
      · intro J78 h78
        refine i0 ?_
        refine h78 _ ?_
        rw [nI_1]
        rw [if_neg hs2] at es
        rw [← es]
        exact hnx _ _ _ _ _
