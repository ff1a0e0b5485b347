/-! pure: out of the reference -/
theorem p_fin {k m a b : Nat} {v15 v16 v17 : Int32} {K : Int32 → Prop} (hk : k ≤ 2) (ha : a < 48) (hb : b < 48) (h15 : v15 = if m = 3 then -4 else nI m) (h16 : v16 = if m = 1 ∨ m = 2 then nI a else -4) (h17 : v17 = if m = 2 then nI b else -4) (hK : K (outV (m, a, b) k)) :
    (∀ J230 : Int32 → Prop, (∀ (v_21 : Int32), (if nI k = 0 then K v15 else (if v_21 = (-4) then K (-4) else K ((10 * (v_21 / 8)) + (v_21 - v_21 / 8 * 8)))) → J230 v_21) → (if nI k = 1 then J230 v16 else J230 v17)) := by
  have sh : ∀ c, c < 48 → (10 : Int32) * (nI c / 8) + (nI c - nI c / 8 * 8) = nI (shw c) := by
    intro c hc
    rw [c_rem hc, show (8 : Int32) = nI 8 from rfl, pk_div (by omega) (by omega) (by omega), m10, nI_add]
    rfl
  unfold outV at hK
  dsimp only at hK
  intro J hJ
  refine it_eq (b := 1) (by omega) (by omega) (fun y => hJ _ ?_) (fun y => hJ _ ?_)
  · subst y
    rw [if_neg (by decide), if_pos rfl] at hK
    rw [if_neg (show ¬ nI 1 = 0 by decide), h16]
    by_cases z : m = 1 ∨ m = 2
    · rw [if_pos z] at hK ⊢
      rw [if_neg (ne4 (by omega)), sh a ha]
      exact hK
    · rw [if_neg z] at hK ⊢
      rw [if_pos rfl]
      exact hK
  · refine it_eq (b := 0) (by omega) (by omega) (fun y0 => ?_) (fun y0 => ?_)
    · rw [if_pos y0] at hK
      rw [h15]
      exact hK
    · rw [if_neg y0, if_neg y] at hK
      rw [h17]
      by_cases z : m = 2
      · rw [if_pos z] at hK ⊢
        rw [if_neg (ne4 (by omega)), sh b hb]
        exact hK
      · rw [if_neg z] at hK ⊢
        rw [if_pos rfl]
        exact hK
theorem r_outA {P : aP} {told s held : Nat → Int32} {w : aW} {st : aT} {d l wo : Int32} {p n t k : Nat} {K : Int32 → Int32 → (Nat → Int32) → (Nat → Int32) → Prop} (hP : PV1 P) (hT : rT P told) (h : rS s w st d l) (hS : SV P w st) (hp : p < Pnp P) (hn : n < Pnn P) (ht1 : 1 ≤ t) (ht : t ≤ 20) (hk : k ≤ 2)
    (hK : ∀ wo s' held', rS s' w st d l → K (outV (outR P w st p n t) k) wo s' held') : wpX9_out wo told s held (nI p) (nI n) (nI t) (nI k) K := by
  have h6 := hP.1.1
  have h8 := hP.1.2.1
  have rxs : ∀ {lo hi b : Nat}, b < 100 → lo ≤ b → b ≤ hi → rx lo hi (nI b) = none → False := by
    intro lo hi b hb h1 h2 e
    unfold rx at e
    split at e
    · cases e
    · rename_i q
      rw [nI_toInt (by omega)] at q
      omega
  unfold wpX9_out
  refine p_isPerson9 hP hT (fun j e1 => i1 ?_) (fun e1 => (rxs (by omega) (by omega) (by omega) e1).elim)
  refine p_isName9 hP hT (fun m e2 => i1 ?_) (fun e2 => (rxs (by omega) (by omega) (by omega) e2).elim)
  refine p_in9 (lo := 1) (hi := 20) (by omega) (by omega) (fun a e3 => i1 ?_) (fun e3 => (rxs (by omega) (by omega) (by omega) e3).elim)
  refine p_in9 (lo := 0) (hi := 2) (by omega) (by omega) (fun a e4 => i1 ?_) (fun e4 => (rxs (by omega) (by omega) (by omega) e4).elim)
  refine p_holds ?_
  intro held2 hh2
  have back : ∀ f, (∀ k, k < 86 → f k = held2 k) → rS f w st d l := fun f hf => rS_copy h (fun k hk => (hf k hk).trans (hh2 k hk))
  refine p_isOut0 (w := w) hP hT hS.z hp (by omega) (by omega) h wo ?_
  intro wo1 f1 hf1
  have hs1 := back f1 hf1
  intro J60 h60
  have fin : ∀ m a b, outR P w st p n t = (m, a, b) → a < 48 → b < 48 → ∀ v15 v16 v17 wo2 s2, (v15 = if m = 3 then -4 else nI m) → (v16 = if m = 1 ∨ m = 2 then nI a else -4) → (v17 = if m = 2 then nI b else -4) → rS s2 w st d l →
      (∀ J230 : Int32 → Prop, (∀ (v_21 : Int32), (if nI k = 0 then K v15 wo2 s2 held2 else (if v_21 = (-4) then K (-4) wo2 s2 held2 else K ((10 * (v_21 / 8)) + (v_21 - v_21 / 8 * 8)) wo2 s2 held2)) → J230 v_21) → (if nI k = 1 then J230 v16 else J230 v17)) := by
    intro m a b er ha hb v15 v16 v17 wo2 s2 h15 h16 h17 hs2
    refine p_fin (K := fun v => K v wo2 s2 held2) hk ha hb h15 h16 h17 ?_
    rw [← er]
    exact hK _ _ _ hs2
  cases e0 : oAway P w st p n t with
  | true =>
    have er := outR0 e0
    refine i1 (h60 _ ?_)
    intro J73 h73
    refine h73 _ _ _ _ _ ?_
    intro J123 h123
    rw [if_neg (show ¬ (48 : Int32) ≤ 0 by decide), if_neg (show ¬ (0 : Int32) = -4 by decide)]
    refine h123 ?_
    intro J126 h126
    refine h126 _ _ _ _ _ _ ?_
    intro J217 h217
    rw [if_neg (show ¬ (48 : Int32) ≤ 0 by decide), if_neg (show ¬ (0 : Int32) = -4 by decide)]
    exact h217 (fin 0 0 0 er (by decide) (by decide) _ _ _ _ _ rfl rfl rfl hs1)
  | false =>
    refine i0 (h60 _ ?_)
    intro J73 h73
    suffices key : ∀ wo2 s2, (∀ j, j < 0 → o1 P w st p n t j = false) → rS s2 w st d l → J73 (-4) (-4) (nI 0) wo2 s2 from key _ _ (fun j hj => absurd hj (by omega)) hs1
    refine kloop (J := fun a => ∀ wo2 s2, (∀ j, j < a → o1 P w st p n t j = false) → rS s2 w st d l → J73 (-4) (-4) (nI a) wo2 s2) (N := 48) ?_ ?_
    · intro wo2 s2 hno hs2
      have no1 : ∀ a, o1 P w st p n t a = false := by
        intro a
        rcases Nat.lt_or_ge a 48 with y | y
        · exact hno a y
        · exact o1_far (by omega)
      refine h73 _ _ _ _ _ ?_
      intro J123 h123
      rw [if_pos (show (48 : Int32) ≤ nI 48 by decide)]
      refine h123 ?_
      intro J126 h126
      suffices key : ∀ wo2 s2, (∀ j b, j < 0 → o2 P w st p n t j b = false) → rS s2 w st d l → J126 (-4) (-4) (-4) (nI 0) wo2 s2 from key _ _ (fun j b hj => absurd hj (by omega)) hs2
      refine kloop (J := fun a => ∀ wo2 s2, (∀ j b, j < a → o2 P w st p n t j b = false) → rS s2 w st d l → J126 (-4) (-4) (-4) (nI a) wo2 s2) (N := 48) ?_ ?_
      · intro wo3 s3 hno2 hs3
        have er := outR3 e0 no1 (fun a b => by
          rcases Nat.lt_or_ge a 48 with y | y
          · exact hno2 a b y
          · exact o2_fara (by omega))
        refine h126 _ _ _ _ _ _ ?_
        intro J217 h217
        rw [if_pos (show (48 : Int32) ≤ nI 48 by decide)]
        exact h217 (fin 3 0 0 er (by decide) (by decide) _ _ _ _ _ rfl rfl rfl hs3)
      · intro a ha hna wo3 s3 hno2 hs3
        refine h126 _ _ _ _ _ _ ?_
        intro J217 h217
        refine it_le (a := 48) (by omega) (by omega) (fun y => absurd y (by omega)) (fun _ => ?_)
        rw [if_pos (show (-4 : Int32) = -4 from rfl)]
        intro x22 e22
        rw [nI_1] at e22
        subst e22
        intro J146 h146
        have next : (∀ b, o2 P w st p n t a b = false) → ∀ wo4 s4, rS s4 w st d l → J126 (-4) (-4) (-4) (nI a + 1) wo4 s4 := by
          intro hb wo4 s4 hs4
          rw [nI_1]
          refine hna _ _ (fun j b hj => ?_) hs4
          rcases Nat.lt_or_ge j a with y | y
          · exact hno2 j b y
          · rw [show j = a by omega]; exact hb b
        suffices key : ∀ wo2 s2, (∀ j, j < a + 1 → o2 P w st p n t a j = false) → rS s2 w st d l → J146 (-4) (-4) (-4) (nI (a + 1)) wo2 s2 from key _ _ (fun j hj => b_f (fun z => by have := (o2_ok z).1; omega)) hs3
        refine kloopA (J := fun b => ∀ wo2 s2, (∀ j, j < b → o2 P w st p n t a j = false) → rS s2 w st d l → J146 (-4) (-4) (-4) (nI b) wo2 s2) (a + 1) 48 (by omega) ?_ ?_
        · intro wo4 s4 hnb hs4
          refine h146 _ _ _ _ _ _ ?_
          intro J211 h211
          rw [if_pos (show (48 : Int32) ≤ nI 48 by decide)]
          refine h211 (next (fun b => ?_) _ _ hs4)
          rcases Nat.lt_or_ge b 48 with y | y
          · exact hnb b y
          · exact o2_far (by omega)
        · intro b hab hb hnb wo4 s4 hno3 hs4
          refine h146 _ _ _ _ _ _ ?_
          intro J211 h211
          refine it_le (a := 48) (by omega) (by omega) (fun y => absurd y (by omega)) (fun _ => ?_)
          rw [if_pos (show (-4 : Int32) = -4 from rfl)]
          have nxb : o2 P w st p n t a b = false → ∀ wo5 s5, rS s5 w st d l → J146 (-4) (-4) (-4) (nI b + 1) wo5 s5 := by
            intro hb wo5 s5 hs5
            rw [nI_1]
            refine hnb _ _ (fun j hj => ?_) hs5
            rcases Nat.lt_or_ge j b with y | y
            · exact hno3 j y
            · rw [show j = b by omega]; exact hb
          refine p_isWord9 hP hT (by omega) ha (fun eo => ?_) (fun eo => ?_)
          · intro J205 h205
            refine i0 (h205 _ _ _ _ _ (nxb (b_f (fun z => ?_)) _ _ hs4))
            rw [(o2_ok z).2.1] at eo
            cases eo
          · intro J205 h205
            refine i1 ?_
            refine p_isWord9 hP hT (by omega) hb (fun eb => ?_) (fun eb => ?_)
            · refine i0 (h205 _ _ _ _ _ (nxb (b_f (fun z => ?_)) _ _ hs4))
              rw [(o2_ok z).2.2] at eb
              cases eb
            · refine i1 ?_
              refine p_isOut2 (w := w) hP hT hS.z hp (by omega) (by omega) hs4 _ ha hb eo eb ?_
              intro wo5 f5 hf5
              have eo2 : o2 P w st p n t a b = oAway P (wfc (wfc w p a) p b) st p n t := by
                unfold o2
                rw [decide_eq_true (show a < b by omega), eo, eb]
                rfl
              cases e2 : oAway P (wfc (wfc w p a) p b) st p n t with
              | false =>
                refine i0 (h205 _ _ _ _ _ (nxb ?_ _ _ (back f5 hf5)))
                rw [eo2, e2]
              | true =>
                refine i1 (h205 _ _ _ _ _ ?_)
                have er := outR2 e0 no1 ha hb (by rw [eo2, e2]) hno2 hno3
                refine h146 _ _ _ _ _ _ ?_
                intro J211 h211
                have en : J211 := by
                  refine h211 ?_
                  refine h126 _ _ _ _ _ _ ?_
                  intro J217' h217'
                  have en2 : J217' := h217' (fin 2 a b er ha hb _ _ _ _ _ rfl rfl rfl (back f5 hf5))
                  rw [if_neg (show ¬ (2 : Int32) = -4 by decide)]
                  split <;> exact en2
                rw [if_neg (show ¬ (2 : Int32) = -4 by decide)]
                split <;> exact en
    · intro a ha hna wo2 s2 hno hs2
      refine h73 _ _ _ _ _ ?_
      intro J123 h123
      refine it_le (a := 48) (by omega) (by omega) (fun y => absurd y (by omega)) (fun _ => ?_)
      rw [if_pos (show (-4 : Int32) = -4 from rfl)]
      have next : o1 P w st p n t a = false → ∀ wo4 s4, rS s4 w st d l → J73 (-4) (-4) (nI a + 1) wo4 s4 := by
        intro hb wo4 s4 hs4
        rw [nI_1]
        refine hna _ _ (fun j hj => ?_) hs4
        rcases Nat.lt_or_ge j a with y | y
        · exact hno j y
        · rw [show j = a by omega]; exact hb
      refine p_isWord9 hP hT (by omega) ha (fun eo => ?_) (fun eo => ?_)
      · intro J117 h117
        refine i0 (h117 _ _ _ _ (next (b_f (fun z => ?_)) _ _ hs2))
        rw [o1_ok z] at eo
        cases eo
      · intro J117 h117
        refine i1 ?_
        refine p_isOut1 (w := w) hP hT hS.z hp (by omega) (by omega) hs2 _ ha eo ?_
        intro wo5 f5 hf5
        have eo1 : o1 P w st p n t a = oAway P (wfc w p a) st p n t := by
          unfold o1
          rw [eo]
          rfl
        cases e2 : oAway P (wfc w p a) st p n t with
        | false =>
          refine i0 (h117 _ _ _ _ (next ?_ _ _ (back f5 hf5)))
          rw [eo1, e2]
        | true =>
          refine i1 (h117 _ _ _ _ ?_)
          have er := outR1 e0 ha (by rw [eo1, e2]) hno
          refine h73 _ _ _ _ _ ?_
          intro J123' h123'
          have en : J123' := by
            refine h123' ?_
            intro J126 h126
            refine h126 _ _ _ _ _ _ ?_
            intro J217 h217
            rw [if_neg (show ¬ (48 : Int32) ≤ 0 by decide), if_neg (show ¬ (1 : Int32) = -4 by decide)]
            exact h217 (fin 1 a 0 er ha (by decide) _ _ _ _ _ rfl rfl rfl (back f5 hf5))
          rw [if_neg (show ¬ (1 : Int32) = -4 by decide)]
          split <;> exact en
theorem r_out {P : aP} {told s held : Nat → Int32} {w : aW} {st : aT} {d l wo : Int32} {x y z u : Int32} {K : Int32 → Int32 → (Nat → Int32) → (Nat → Int32) → Prop} (hP : PV1 P) (hT : rT P told) (h : rS s w st d l) (hS : SV P w st)
    (hK : ∀ wo s' held', rS s' w st d l → K (aOut P w st x y z u) wo s' held') : wpX9_out wo told s held x y z u K := by
  unfold aOut iO at hK
  cases e1 : iPN P x y with
  | none =>
    rw [e1] at hK
    dsimp only at hK
    unfold wpX9_out
    refine p_isPerson9 hP hT (fun p e => i1 (p_isName9 hP hT (fun n e2 => ?_) (fun _ => i0 (hK _ _ _ h)))) (fun _ => i0 (hK _ _ _ h))
    rw [iPN_m e e2] at e1
    cases e1
  | some v =>
    have g1 := iPN_s hP e1
    cases e2 : rx 1 20 z with
    | none =>
      rw [e1, e2] at hK
      dsimp only at hK
      unfold wpX9_out
      exact p_isPerson9 hP hT (fun p e => i1 (p_isName9 hP hT (fun n _ => i1 (p_in9 (lo := 1) (hi := 20) (by omega) (by omega) (fun a e3 => by rw [e2] at e3; cases e3) (fun _ => i0 (hK _ _ _ h)))) (fun _ => i0 (hK _ _ _ h)))) (fun _ => i0 (hK _ _ _ h))
    | some t =>
      have g2 := rx_some e2
      cases e3 : rx 0 2 u with
      | none =>
        rw [e1, e2, e3] at hK
        dsimp only at hK
        unfold wpX9_out
        exact p_isPerson9 hP hT (fun p e => i1 (p_isName9 hP hT (fun n _ => i1 (p_in9 (lo := 1) (hi := 20) (by omega) (by omega) (fun a _ => i1 (p_in9 (lo := 0) (hi := 2) (by omega) (by omega) (fun a e4 => by rw [e3] at e4; cases e4) (fun _ => i0 (hK _ _ _ h)))) (fun _ => i0 (hK _ _ _ h)))) (fun _ => i0 (hK _ _ _ h)))) (fun _ => i0 (hK _ _ _ h))
      | some k =>
        have g3 := rx_some e3
        rw [e1, e2, e3] at hK
        dsimp only at hK
        rw [g1.2.2.1, g1.2.2.2, g2.2.2, g3.2.2]
        exact r_outA hP hT h hS g1.1 g1.2.1 g2.1 g2.2.1 g3.2.1 hK
