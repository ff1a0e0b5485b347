/-! pure: out, both -/
def outB (P : aP) (w : aW) (st : aT) (p n t : Nat) : Nat := fd (fun a => decide (fd (o2 P w st p n t a) 48 < 48)) 48
def outR (P : aP) (w : aW) (st : aT) (p n t : Nat) : Nat × Nat × Nat :=
  if oAway P w st p n t = true then (0, 0, 0) else if fd (o1 P w st p n t) 48 < 48 then (1, fd (o1 P w st p n t) 48, 0) else if outB P w st p n t < 48 then (2, outB P w st p n t, fd (o2 P w st p n t (outB P w st p n t)) 48) else (3, 0, 0)
def outV (r : Nat × Nat × Nat) (k : Nat) : Int32 := if k = 0 then (if r.1 = 3 then -4 else nI r.1) else if k = 1 then (if r.1 = 1 ∨ r.1 = 2 then nI (shw r.2.1) else -4) else if r.1 = 2 then nI (shw r.2.2) else -4
theorem outR0 {P : aP} {w : aW} {st : aT} {p n t : Nat} (h : oAway P w st p n t = true) : outR P w st p n t = (0, 0, 0) := if_pos h
theorem outR1 {P : aP} {w : aW} {st : aT} {p n t a : Nat} (h : oAway P w st p n t = false) (ha : a < 48) (h1 : o1 P w st p n t a = true) (h2 : ∀ j, j < a → o1 P w st p n t j = false) : outR P w st p n t = (1, a, 0) := by
  have e : fd (o1 P w st p n t) 48 = a := fd_eq (by omega) h2 (fun _ => h1)
  unfold outR
  rw [e, if_neg (by rw [h]; decide), if_pos ha]
theorem fdn {Q : Nat → Bool} {n : Nat} (h : ∀ a, Q a = false) : fd Q n = n := fd_eq (Nat.le_refl n) (fun j _ => h j) (fun z => absurd z (by omega))
theorem outR2 {P : aP} {w : aW} {st : aT} {p n t a b : Nat} (h : oAway P w st p n t = false) (h0 : ∀ a, o1 P w st p n t a = false) (ha : a < 48) (hb : b < 48) (h1 : o2 P w st p n t a b = true) (h2 : ∀ j b, j < a → o2 P w st p n t j b = false) (h3 : ∀ j, j < b → o2 P w st p n t a j = false) : outR P w st p n t = (2, a, b) := by
  have e1 : fd (o1 P w st p n t) 48 = 48 := fdn h0
  have e3 : fd (o2 P w st p n t a) 48 = b := fd_eq (by omega) h3 (fun _ => h1)
  have e2 : outB P w st p n t = a := by
    unfold outB
    refine fd_eq (by omega) (fun j hj => ?_) (fun _ => ?_)
    · rw [fdn (fun b => h2 j b hj)]; rfl
    · rw [e3]; exact decide_eq_true hb
  unfold outR
  rw [e1, e2, e3, if_neg (by rw [h]; decide), if_neg (by omega), if_pos ha]
theorem outR3 {P : aP} {w : aW} {st : aT} {p n t : Nat} (h : oAway P w st p n t = false) (h0 : ∀ a, o1 P w st p n t a = false) (h1 : ∀ a b, o2 P w st p n t a b = false) : outR P w st p n t = (3, 0, 0) := by
  have e1 : fd (o1 P w st p n t) 48 = 48 := fdn h0
  have e2 : outB P w st p n t = 48 := by
    unfold outB
    refine fdn (fun j => ?_)
    rw [fdn (fun b => h1 j b)]; rfl
  unfold outR
  rw [e1, e2, if_neg (by rw [h]; decide), if_neg (by omega), if_neg (by omega)]
def iO (P : aP) (x y z u : Int32) : Option (Nat × Nat × Nat × Nat) := match iPN P x y, rx 1 20 z, rx 0 2 u with
  | some q, some t, some k => some (q.1, q.2, t, k)
  | _, _, _ => none
def aOut (P : aP) (w : aW) (st : aT) (x y z u : Int32) : Int32 := match iO P x y z u with
  | some q => outV (outR P w st q.1 q.2.1 q.2.2.1) q.2.2.2
  | none => -1
theorem c_out {P : aP} {w : aW} {st : aT} {np nn q f1 f2 hk hb hf : Int32} {hw : Int64} {hs kinds beds foods pu pe f : Nat → Int32} {rows : Nat → Int64} {x y z u : Int32} {K : Int32 → Int32 → Int32 → Int32 → Int32 → Int32 → Int64 → (Nat → Int32) → Prop} (hP : PV1 P) (hR : rPt P np nn q kinds beds foods pu pe) (hwr : rW rows w) (h : rD f st) (hS : SV P w st)
    (hK : ∀ o1 o2 a b c e g, K (aOut P w st x y z u) o1 o2 a b c e g) : wpX8_out f1 f2 np nn q kinds beds foods pu pe rows f hk hb hf hw hs x y z u K := by
  have h6 := hP.1.1
  have h8 := hP.1.2.1
  unfold wpX8_out
  unfold aOut iO at hK
  rw [hR.1, hR.2.1]
  refine p_isLodging hP (fun v e1 => i1 ?_) (fun e1 => i0 (by rw [e1] at hK; exact hK _ _ _ _ _ _ _))
  refine p_within (lo := 1) (hi := 20) (by omega) (by omega) (fun t e2 => i1 ?_) (fun e2 => i0 (by rw [e1, e2] at hK; exact hK _ _ _ _ _ _ _))
  refine p_within (lo := 0) (hi := 2) (by omega) (by omega) (fun k e3 => i1 ?_) (fun e3 => i0 (by rw [e1, e2, e3] at hK; exact hK _ _ _ _ _ _ _))
  have g1 := iPN_s hP e1
  have g2 := rx_some e2
  have g3 := rx_some e3
  rw [e1, e2, e3] at hK
  dsimp only at hK
  rw [← hR.1, ← hR.2.1, g1.2.2.1, g1.2.2.2, g2.2.2, g3.2.2]
  refine p_findOut hP hR hwr h hS.2.1 hS.2.2.1 g1.1 (by omega) (by omega) ?_ ?_ ?_ ?_
  · intro k0 o1' o2' a b c e g
    rw [outR0 k0] at hK
    unfold outV at hK
    rw [show (0 : Int32) = nI 0 from rfl]
    refine it_le (by omega) (by omega) (fun y => it_eq (by omega) (by omega) (fun y2 => ?_) (fun y2 => absurd y (by omega))) (fun y => ?_)
    · rw [if_pos y2, if_neg (by decide)] at hK; exact hK _ _ _ _ _ _ _
    · rw [if_neg (by omega), if_neg (show ¬ (((0 : Nat), (0 : Nat), (0 : Nat)).1 = 1 ∨ ((0 : Nat), (0 : Nat), (0 : Nat)).1 = 2) by decide), if_neg (show ¬ ((0 : Nat), (0 : Nat), (0 : Nat)).1 = 2 by decide)] at hK
      split at hK <;> exact hK _ _ _ _ _ _ _
  · intro k0 a ha h1 h2 o2' b c d e g
    rw [outR1 k0 ha h1 h2] at hK
    unfold outV at hK
    rw [show (1 : Int32) = nI 1 from rfl, show (0 : Int32) = nI 0 from rfl]
    refine it_le (by omega) (by omega) (fun y => it_eq (by omega) (by omega) (fun y2 => ?_) (fun y2 => it_eq (by omega) (by omega) (fun y3 => ?_) (fun y3 => absurd y (by omega)))) (fun y => ?_)
    · rw [if_pos y2, if_neg (fun z => absurd (show (1 : Nat) = 3 from z) (by decide))] at hK; exact hK _ _ _ _ _ _ _
    · rw [if_neg y2, if_pos y3, if_pos (Or.inl rfl)] at hK; exact hK _ _ _ _ _ _ _
    · rw [if_neg (by omega), if_neg (by omega), if_neg (fun z => absurd (show (1 : Nat) = 2 from z) (by decide))] at hK; exact hK _ _ _ _ _ _ _
  · intro k0 hno a b ha hb h1 h2 h3 c d e i g
    rw [outR2 k0 hno ha hb h1 h2 h3] at hK
    unfold outV at hK
    rw [show (1 : Int32) = nI 1 from rfl, show (0 : Int32) = nI 0 from rfl, show (2 : Int32) = nI 2 from rfl]
    refine it_le (by omega) (by omega) (fun y => it_eq (by omega) (by omega) (fun y2 => ?_) (fun y2 => it_eq (by omega) (by omega) (fun y3 => ?_) (fun y3 => ?_))) (fun y => absurd y (by omega))
    · rw [if_pos y2, if_neg (fun z => absurd (show (2 : Nat) = 3 from z) (by decide))] at hK; exact hK _ _ _ _ _ _ _
    · rw [if_neg y2, if_pos y3, if_pos (Or.inr rfl)] at hK; exact hK _ _ _ _ _ _ _
    · rw [if_neg y2, if_neg y3, if_pos rfl] at hK; exact hK _ _ _ _ _ _ _
  · intro k0 hno hno2 o1' o2' a b c e g
    rw [outR3 k0 hno hno2] at hK
    have e0 : outV (3, 0, 0) k = -4 := by
      unfold outV
      by_cases y : k = 0
      · rw [if_pos y]; rfl
      · rw [if_neg y]
        by_cases y2 : k = 1
        · rw [if_pos y2]; rfl
        · rw [if_neg y2]; rfl
    rw [e0] at hK
    have : ¬ nI k ≤ -4 := by
      intro z
      have z2 := Int32.le_iff_toInt_le.mp z
      rw [nI_toInt (by omega), show (-4 : Int32).toInt = -4 by decide] at z2
      omega
    rw [if_neg this]
    exact hK _ _ _ _ _ _ _
/-! the reference -/
theorem p_oDays {P : aP} {told : Nat → Int32} {w : aW} {st : aT} {d l : Int32} {p n t : Nat} {s held : Nat → Int32} {K : Int32 → Int32 → (Nat → Int32) → Prop} (hP : PV1 P) (hT : rT P told) (hS : SV0 P w st) (hp : p < Pnp P) (hn : n < 8) (ht : t < 100) (h : rS s w st d l) (wo : Int32)
    (hK : ∀ wo f, (∀ k, k < 86 → f k = held k) → K (if oAway P w st p n t then 1 else 0) wo f) :
    (∀ J69 : Int32 → Int32 → (Nat → Int32) → Prop, (∀ (v_3 : Int32) (x_without_4 : Int32) (x_s_5 : Nat → Int32), (if nI t ≤ v_3 then (vp_in ((8 * nI p) + nI n) 86 ∧ (∀ J105 : Int32 → Prop, (∀ (v_6 : Int32), (wpX9_lets x_s_5 held (fun (x_s_7 : Nat → Int32) => ((v_6 = 0 ∨ v_6 = 1) ∧ K v_6 x_without_4 x_s_7))) → J105 v_6) → (if (x_s_5 (Int32.toNatClampNeg ((8 * nI p) + nI n))) = 0 then J105 1 else J105 0))) else (wpX9_goesBy x_without_4 told x_s_5 (nI p) (fun (x_without_8 : Int32) (x_s_9 : Nat → Int32) => J69 (v_3 + 1) x_without_8 x_s_9))) → J69 v_3 x_without_4 x_s_5) → J69 0 wo s) := by
  have h6 := hP.1.1
  have hp6 : p < 6 := by omega
  intro J hJ
  suffices key : ∀ wo2 s2 l2, rS s2 w (uT st p (itS (Dp P w p) (st p) 0)) d l2 → J (nI 0) wo2 s2 by
    refine key wo s l ?_
    rw [show itS (Dp P w p) (st p) 0 = st p from rfl, uT_id]
    exact h
  refine kloop (J := fun k => ∀ wo2 s2 l2, rS s2 w (uT st p (itS (Dp P w p) (st p) k)) d l2 → J (nI k) wo2 s2) (N := t) ?_ ?_
  · intro wo2 s2 l2 hs2
    refine hJ _ _ _ (it_le (by omega) (by omega) (fun _ => ?_) (fun y => absurd y (by omega)))
    rw [m8, nI_add, nI_clamp (by omega), hs2.1 p hp6 n hn, uT_s]
    refine ⟨vl _ _ (by omega) (by omega), ?_⟩
    have hb := itS_V (Dp_V (P := P) (w := w) (p := p)) (hS.2.1 p) t n
    intro J105 h105
    refine it_eq (b := 0) (by omega) (by omega) (fun z => h105 _ (p_lets (fun f hf => ⟨Or.inr rfl, ?_⟩))) (fun z => h105 _ (p_lets (fun f hf => ⟨Or.inl rfl, ?_⟩)))
    · have := hK wo2 f hf
      rw [show oAway P w st p n t = true from decide_eq_true z] at this
      exact this
    · have := hK wo2 f hf
      rw [show oAway P w st p n t = false from decide_eq_false z] at this
      exact this
  · intro k hk hnx wo2 s2 l2 hs2
    refine hJ _ _ _ (it_le (by omega) (by omega) (fun y => absurd y (by omega)) (fun _ => ?_))
    have ek : uT st p (itS (Dp P w p) (st p) k) p = itS (Dp P w p) (st p) k := uT_s _ _ _
    refine p_goesBy hP.1 hP.2.2 hT hp6 (fun n i hi => hS.1.f hi) (by rw [ek]; exact itS_V Dp_V (hS.2.1 p) k) (by rw [ek]; exact itS_Z Dp_Z (hS.2.2.1 p) k) (by rw [ek]; intro h4 m; rw [itS_4 h4]; exact hS.2.2.2.2 p h4 m) hs2 ?_
    intro s3 hs3
    rw [ek, uT_uT] at hs3
    rw [nI_1]
    exact hnx _ s3 _ hs3
theorem p_isOut0 {P : aP} {told : Nat → Int32} {w : aW} {st : aT} {d l : Int32} {p n t : Nat} {s held : Nat → Int32} {K : Int32 → Int32 → (Nat → Int32) → Prop} (hP : PV1 P) (hT : rT P told) (hS : SV0 P w st) (hp : p < Pnp P) (hn : n < 8) (ht : t < 100) (h : rS s w st d l) (wo : Int32)
    (hK : ∀ wo f, (∀ k, k < 86 → f k = held k) → K (if oAway P w st p n t then 1 else 0) wo f) : wpX9_isOut wo told s held (nI p) (nI n) (nI t) (-1) (-1) K := by
  unfold wpX9_isOut
  intro J33 h33
  rw [if_pos (show (-1 : Int32) < 0 by decide)]
  refine h33 _ ?_
  intro J66 h66
  rw [if_pos (show (-1 : Int32) < 0 by decide)]
  exact h66 _ (p_oDays hP hT hS hp hn ht h wo hK)
theorem c_at {a p : Nat} (ha : a < 48) : 48 + 6 * (nI a / 8) + nI p = nI (48 + 6 * (a / 8) + p) := by
  rw [show (8 : Int32) = nI 8 from rfl, pk_div (by omega) (by omega) (by omega), m6, a48, nI_add]
theorem c_rem {a : Nat} (ha : a < 48) : nI a - nI a / 8 * 8 = nI (a % 8) := by
  rw [show (8 : Int32) = nI 8 from rfl, pk_rem (by omega) (by omega) (by omega)]
theorem p_isOut1 {P : aP} {told : Nat → Int32} {w : aW} {st : aT} {d l : Int32} {p n t a : Nat} {s held : Nat → Int32} {K : Int32 → Int32 → (Nat → Int32) → Prop} (hP : PV1 P) (hT : rT P told) (hS : SV0 P w st) (hp : p < Pnp P) (hn : n < 8) (ht : t < 100) (h : rS s w st d l) (wo : Int32) (ha : a < 48) (hao : okC P p a = true)
    (hK : ∀ wo f, (∀ k, k < 86 → f k = held k) → K (if oAway P (wfc w p a) st p n t then 1 else 0) wo f) : wpX9_isOut wo told s held (nI p) (nI n) (nI t) (nI a) (-1) K := by
  have h6 := hP.1.1
  unfold wpX9_isOut
  rw [c_at ha, c_rem ha, nI_clamp (by omega)]
  intro J33 h33
  rw [if_neg (nI_pos (by omega))]
  refine ⟨vl _ _ (by omega) (by omega), vl _ _ (by omega) (by omega), h33 _ ?_⟩
  intro J66 h66
  rw [if_pos (show (-1 : Int32) < 0 by decide)]
  refine h66 _ ?_
  exact p_oDays (w := wfc w p a) hP hT ⟨WF_c hS.1 hp hao, hS.2⟩ hp hn ht (h.word (by omega) (by omega) (by omega)) wo hK
theorem p_isOut2 {P : aP} {told : Nat → Int32} {w : aW} {st : aT} {d l : Int32} {p n t a b : Nat} {s held : Nat → Int32} {K : Int32 → Int32 → (Nat → Int32) → Prop} (hP : PV1 P) (hT : rT P told) (hS : SV0 P w st) (hp : p < Pnp P) (hn : n < 8) (ht : t < 100) (h : rS s w st d l) (wo : Int32) (ha : a < 48) (hb : b < 48) (hao : okC P p a = true) (hbo : okC P p b = true)
    (hK : ∀ wo f, (∀ k, k < 86 → f k = held k) → K (if oAway P (wfc (wfc w p a) p b) st p n t then 1 else 0) wo f) : wpX9_isOut wo told s held (nI p) (nI n) (nI t) (nI a) (nI b) K := by
  have h6 := hP.1.1
  unfold wpX9_isOut
  rw [c_at ha, c_rem ha, c_at hb, c_rem hb, nI_clamp (show 48 + 6 * (a / 8) + p < 2 ^ 31 by omega), nI_clamp (show 48 + 6 * (b / 8) + p < 2 ^ 31 by omega)]
  intro J33 h33
  rw [if_neg (nI_pos (by omega))]
  refine ⟨vl _ _ (by omega) (by omega), vl _ _ (by omega) (by omega), h33 _ ?_⟩
  intro J66 h66
  rw [if_neg (nI_pos (by omega))]
  refine ⟨vl _ _ (by omega) (by omega), vl _ _ (by omega) (by omega), h66 _ ?_⟩
  exact p_oDays (w := wfc (wfc w p a) p b) hP hT ⟨WF_c (WF_c hS.1 hp hao) hp hbo, hS.2⟩ hp hn ht ((h.word (n := a % 8) (i := a / 8) (by omega) (by omega) (by omega)).word (by omega) (by omega) (by omega)) wo hK
theorem p_isWord9 {P : aP} {told : Nat → Int32} {p a : Nat} {K : Int32 → Prop} (hP : PV1 P) (hT : rT P told) (hp : p < 6) (ha : a < 48) (h0 : okC P p a = false → K 0) (h1 : okC P p a = true → K 1) : wpX9_isWord told (nI p) (nI a) K := by
  have h6 := hP.1.1
  have h8 := hP.1.2.1
  have hr : ∀ {lo hi b : Nat} {j : Nat}, b < 100 → rx lo hi (nI b) = some j → j = b := by
    intro lo hi b j hb e
    have := rx_some e
    unfold rx at e
    split at e
    · cases e
      rw [nI_toInt (by omega)]
      rfl
    · cases e
  have hn : ∀ {hi b : Nat}, b < 100 → rx 0 hi (nI b) = none → hi < b := by
    intro hi b hb e
    unfold rx at e
    split at e
    · cases e
    · rename_i q
      rw [nI_toInt (by omega)] at q
      omega
  unfold wpX9_isWord
  rw [c_rem ha, show (8 : Int32) = nI 8 from rfl, pk_div (by omega) (by omega) (by omega)]
  refine it_eq (by omega) (by omega) (fun z => h0 (okC_f (fun y => y.2.1 z))) (fun z => ?_)
  refine p_isPerson9 hP hT (fun j e1 => i1 (p_isName9 hP hT (fun m e2 => i1 (h1 ?_)) (fun e2 => i0 (h0 ?_)))) (fun e1 => i0 (h0 ?_))
  · have := rx_some e1
    have := rx_some e2
    have := hr (by omega) e1
    have := hr (by omega) e2
    have := hP.2
    exact okC_i (by omega) z (by omega)
  · have := hn (by omega) e2
    exact okC_f (fun y => by omega)
  · have := hn (by omega) e1
    exact okC_f (fun y => by omega)
