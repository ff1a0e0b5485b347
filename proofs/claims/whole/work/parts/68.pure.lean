/-! pure: year -/
def drw (z k : Nat) : Nat := (7919 * z + 6151 * k + 1) * (7919 * z + 6151 * k + 1) % 65521
def flipY (P : aP) (w : aW) (d : Nat) : aW := if d % Pnp P = d / 64 % Pnp P then w else if w (d % Pnp P) (d / 64 % Pnp P) (d / 8 % Pnn P) = true ∨ tot w < 12 then wf w (d % Pnp P) (d / 64 % Pnp P) (d / 8 % Pnn P) else w
def yr (P : aP) (z : Nat) (w : aW) (st : aT) : Nat → aW × aT × Nat
  | 0 => (w, st, 0)
  | k + 1 => (flipY P (yr P z w st k).1 (drw z k), daysT P (flipY P (yr P z w st k).1 (drw z k)) (yr P z w st k).2.1 1, (yr P z w st k).2.2 + lostN P (flipY P (yr P z w st k).1 (drw z k)) (yr P z w st k).2.1 1)
theorem SV_flipY {P : aP} {w : aW} {st : aT} (hP : PV1 P) (h : SV P w st) (d : Nat) : SV P (flipY P w d) st := by
  have h1 : d % Pnp P < Pnp P := Nat.mod_lt _ (by have := hP.2.1; omega)
  have h2 : d / 64 % Pnp P < Pnp P := Nat.mod_lt _ (by have := hP.2.1; omega)
  have h3 : d / 8 % Pnn P < Pnn P := Nat.mod_lt _ (by have := hP.2.2; omega)
  unfold flipY
  split
  · exact h
  · rename_i hne
    split
    · rename_i ht
      exact h.flip hP.1.1 hP.1.2.1 h1 h2 hne h3 ht
    · exact h
theorem SV_yr {P : aP} {w : aW} {st : aT} (hP : PV1 P) (h : SV P w st) (z : Nat) : ∀ k, SV P (yr P z w st k).1 (yr P z w st k).2.1 := by
  intro k
  induction k with
  | zero => exact h
  | succ k ih => exact (SV_flipY hP ih _).days 1
def aYear (P : aP) (w : aW) (st : aT) (x y v : Int32) : Int32 := match rx 0 9999 x, rx 1 60 y, rx 0 1 v with
  | some z, some n, some a => if a = 0 then nI (lodT (yr P z w st n).2.1) else nI (yr P z w st n).2.2
  | _, _, _ => -1
theorem p_flipDrawn {P : aP} {w : aW} {d : Nat} {rows : Nat → Int64} {K : (Nat → Int64) → Prop} (hP : PV1 P) (hd : d < 2 ^ 31) (h : rW rows w) (hK : ∀ r, rW r (flipY P w d) → K r) : wpX1_flipDrawn (nI (Pnp P)) (nI (Pnn P)) rows (nI d) K := by
  have h6 := hP.1.1
  have h8 := hP.1.2.1
  have g6 := hP.2.1
  have g8 := hP.2.2
  have h1 : d % Pnp P < Pnp P := Nat.mod_lt _ (by omega)
  have h2 : d / 64 % Pnp P < Pnp P := Nat.mod_lt _ (by omega)
  have h3 : d / 8 % Pnn P < Pnn P := Nat.mod_lt _ (by omega)
  unfold wpX1_flipDrawn
  refine it_lt (b := 1) (by omega) (by omega) (fun z => absurd z (by omega)) (fun _ => ?_)
  refine it_le (a := 1) (by omega) (by omega) (fun _ => ?_) (fun z => absurd z (by omega))
  refine ⟨nI_ne0 (by omega) (by omega), ?_⟩
  intro x1 e1
  rw [pk_rem hd (by omega) (by omega)] at e1
  subst e1
  refine ⟨nI_ne0 (by omega) (by omega), ?_⟩
  intro x2 e2
  rw [show (64 : Int32) = nI 64 from rfl, pk_div hd (by omega) (by omega), pk_rem (by omega) (by omega) (by omega)] at e2
  subst e2
  refine ⟨nI_ne0 (by omega) (by omega), ?_⟩
  intro x3 e3
  rw [show (8 : Int32) = nI 8 from rfl, pk_div hd (by omega) (by omega), pk_rem (by omega) (by omega) (by omega)] at e3
  subst e3
  unfold flipY at hK
  refine it_eq (by omega) (by omega) (fun z => ?_) (fun z => ?_)
  · rw [if_pos z] at hK; exact hK _ h
  · rw [if_neg z] at hK
    refine p_canFlip h (by omega) (by omega) (by omega) ?_
    by_cases ht : w (d % Pnp P) (d / 64 % Pnp P) (d / 8 % Pnn P) = true ∨ tot w < 12
    · rw [if_pos ht] at hK
      have e : (w (d % Pnp P) (d / 64 % Pnp P) (d / 8 % Pnn P) || decide (tot w < 12)) = true := by
        rcases ht with y | y
        · rw [y]; rfl
        · rw [decide_eq_true y, Bool.or_true]
      rw [e]
      exact i1 (p_flip h (by omega) (by omega) (by omega) hK)
    · rw [if_neg ht] at hK
      have e : (w (d % Pnp P) (d / 64 % Pnp P) (d / 8 % Pnn P) || decide (tot w < 12)) = false := by
        cases hw : w (d % Pnp P) (d / 64 % Pnp P) (d / 8 % Pnn P) with
        | true => exact absurd (Or.inl hw) ht
        | false => rw [Bool.false_or]; exact decide_eq_false (fun z => ht (Or.inr z))
      rw [e]
      exact i0 (hK _ h)
theorem drw_lt (z k : Nat) : drw z k < 65521 := Nat.mod_lt _ (by decide)
theorem p_drw {z k : Nat} (hz : z ≤ 9999) (hk : k < 60) {x : Int64} (hx : x = 7919 * (nI z).toInt64 + 6151 * (nI k).toInt64 + 1) : Int64.toInt32 (x * x - x * x / 65521 * 65521) = nI (drw z k) := by
  have e : x = lN (7919 * z + 6151 * k + 1) := by
    rw [hx, nI_l (by omega), nI_l (by omega), show (7919 : Int64) = lN 7919 from rfl, show (6151 : Int64) = lN 6151 from rfl, lN_mul, lN_mul, lN_add, lN_1]
  have hb : 7919 * z + 6151 * k + 1 < 100000000 := by omega
  have hm : (7919 * z + 6151 * k + 1) * (7919 * z + 6151 * k + 1) < 100000000 * 100000000 := Nat.mul_lt_mul_of_lt_of_lt hb hb
  rw [e, lN_mul, show (65521 : Int64) = lN 65521 from rfl, pk_lRem (by omega) (by omega) (by omega), lN_i]
  rfl
theorem sub_l (l x : Int32) : l + x - l = x := by rw [Int32.add_comm, Int32.add_sub_cancel]
theorem c_year {P : aP} {w : aW} {st : aT} {np nn q hk hb hf nd nl md ml : Int32} {hw : Int64} {hs kinds beds foods pu pe f mf : Nat → Int32} {rows mr : Nat → Int64} {x y v : Int32} {K : Int32 → Int32 → Int32 → Int32 → Int64 → (Nat → Int32) → Int32 → Int32 → (Nat → Int64) → (Nat → Int32) → Prop} (hP : PV1 P) (hR : rPt P np nn q kinds beds foods pu pe) (hwr : rW rows w) (h : rD f st) (hS : SV P w st)
    (hK : ∀ a b c e g i j k m, K (aYear P w st x y v) a b c e g i j k m) : wpX8_year np nn q kinds beds foods pu pe hk hb hf hw hs nd nl rows f md ml mr mf x y v K := by
  unfold wpX8_year
  unfold aYear at hK
  refine p_within (lo := 0) (hi := 9999) (by omega) (by omega) (fun z e1 => i1 ?_) (fun e1 => i0 (by rw [e1] at hK; exact hK _ _ _ _ _ _ _ _ _))
  refine p_within (lo := 1) (hi := 60) (by omega) (by omega) (fun n e2 => i1 ?_) (fun e2 => i0 (by rw [e1, e2] at hK; exact hK _ _ _ _ _ _ _ _ _))
  refine p_within (lo := 0) (hi := 1) (by omega) (by omega) (fun a e3 => i1 ?_) (fun e3 => i0 (by rw [e1, e2, e3] at hK; exact hK _ _ _ _ _ _ _ _ _))
  have h1 := rx_some e1
  have h2 := rx_some e2
  have h3 := rx_some e3
  rw [e1, e2, e3] at hK
  dsimp only at hK
  refine p_sbecome hwr h ?_
  intro r0 g0 hr0 hg0
  intro J hJ
  suffices key : ∀ a b c e g mdd r g2, rW r (yr P z w st 0).1 → rD g2 (yr P z w st 0).2.1 → J (nI 0) a b c e g mdd (nl + nI (yr P z w st 0).2.2) r g2 by
    have := key hk hb hf hw hs nd r0 g0 hr0 hg0
    rw [show nl + nI (yr P z w st 0).2.2 = nl from Int32.add_zero nl] at this
    exact this
  refine kloop (J := fun k => ∀ a b c e g mdd r g2, rW r (yr P z w st k).1 → rD g2 (yr P z w st k).2.1 → J (nI k) a b c e g mdd (nl + nI (yr P z w st k).2.2) r g2) (N := n) ?_ ?_
  · intro b0 b c e g mdd r g2 hr hg
    refine hJ _ _ _ _ _ _ _ _ _ _ ?_
    rw [h2.2.2]
    refine it_le (by omega) (by omega) (fun _ => ?_) (fun q => absurd q (by omega))
    rw [h3.2.2]
    refine it_eq (b := 0) (by omega) (by omega) (fun q => ?_) (fun q => ?_)
    · rw [if_pos q] at hK
      exact p_lodgings (SV_yr hP hS z n).2.1 hg (hK _ _ _ _ _ _ _ _ _)
    · rw [if_neg q] at hK
      rw [sub_l]
      exact hK _ _ _ _ _ _ _ _ _
  · intro k hkn hnx b0 b c e g mdd r g2 hr hg
    refine hJ _ _ _ _ _ _ _ _ _ _ ?_
    rw [h2.2.2]
    refine it_le (by omega) (by omega) (fun q => absurd q (by omega)) (fun _ => ?_)
    intro xx hx
    rw [h1.2.2] at hx
    rw [p_drw h1.2.1 (by omega) hx, hR.1, hR.2.1]
    have hd := drw_lt z k
    refine p_flipDrawn hP (by omega) hr ?_
    intro r2 hr2
    have hS2 := SV_flipY hP (SV_yr hP hS z k) (drw z k)
    rw [← hR.1, ← hR.2.1]
    refine p_opassDays (n := 1) hP.1 hR (by omega) hS2.2.1 hS2.2.2.1 hr2 hg ?_
    intro a1 a2 a3 a4 a5 g3 hg3
    rw [nI_1]
    have := hnx a1 a2 a3 a4 a5 (mdd + nI 1) r2 g3 hr2 hg3
    rw [show (yr P z w st (k + 1)).2.2 = (yr P z w st k).2.2 + lostN P (flipY P (yr P z w st k).1 (drw z k)) (yr P z w st k).2.1 1 from rfl, ← nI_add (yr P z w st k).2.2, ← Int32.add_assoc] at this
    exact this
theorem r_year {P : aP} {told s held : Nat → Int32} {w : aW} {st : aT} {d l wo : Int32} {x y v : Int32} {K : Int32 → Int32 → (Nat → Int32) → (Nat → Int32) → Prop} (hP : PV1 P) (hT : rT P told) (h : rS s w st d l) (hS : SV P w st)
    (hK : ∀ wo s' held', rS s' w st d l → K (aYear P w st x y v) wo s' held') : wpX9_year wo told s held x y v K := by
  have h6 := hP.1.1
  have h8 := hP.1.2.1
  have g6 := hP.2.1
  have g8 := hP.2.2
  unfold wpX9_year
  unfold aYear at hK
  refine p_in9 (lo := 0) (hi := 9999) (by omega) (by omega) (fun z e1 => i1 ?_) (fun e1 => i0 (by rw [e1] at hK; exact hK _ _ _ h))
  refine p_in9 (lo := 1) (hi := 60) (by omega) (by omega) (fun n e2 => i1 ?_) (fun e2 => i0 (by rw [e1, e2] at hK; exact hK _ _ _ h))
  refine p_in9 (lo := 0) (hi := 1) (by omega) (by omega) (fun a e3 => i1 ?_) (fun e3 => i0 (by rw [e1, e2, e3] at hK; exact hK _ _ _ h))
  have h1 := rx_some e1
  have h2 := rx_some e2
  have h3 := rx_some e3
  rw [e1, e2, e3] at hK
  dsimp only at hK
  refine p_holds ?_
  intro held2 hh2
  refine ⟨vl 85 _ (by omega) (by omega), ?_⟩
  intro x5 e5
  rw [show (85 : Int32) = nI 85 from rfl, nI_clamp (by omega), h.2.2.2] at e5
  subst e5
  intro J hJ
  have out : ∀ (v wo2 : Int32) (s2 : Nat → Int32), v = (if a = 0 then nI (lodT (yr P z w st n).2.1) else nI (yr P z w st n).2.2) → wpX9_lets s2 held2 (fun x_s_7 => K v wo2 x_s_7 held2) := by
    intro v wo2 s2 hv
    refine p_lets ?_
    intro s3 hs3
    rw [hv]
    exact hK _ _ _ (rS_copy h (fun k hk => (hs3 k hk).trans (hh2 k hk)))
  suffices key : ∀ wo2 s2 dd, rS s2 (yr P z w st 0).1 (yr P z w st 0).2.1 dd (x5 + nI (yr P z w st 0).2.2) → J (nI 0) wo2 s2 by
    refine key wo s d ?_
    rw [show x5 + nI (yr P z w st 0).2.2 = x5 from Int32.add_zero x5]
    exact h
  refine kloop (J := fun k => ∀ wo2 s2 dd, rS s2 (yr P z w st k).1 (yr P z w st k).2.1 dd (x5 + nI (yr P z w st k).2.2) → J (nI k) wo2 s2) (N := n) ?_ ?_
  · intro wo2 s2 dd hs2
    refine hJ _ _ _ ?_
    rw [h2.2.2]
    refine it_le (by omega) (by omega) (fun _ => ?_) (fun q => absurd q (by omega))
    intro J210 h210
    rw [h3.2.2]
    have hSn := SV_yr hP hS z n
    refine it_eq (b := 0) (by omega) (by omega) (fun q => ?_) (fun q => ?_)
    · refine p_lodgings9 hP.1 hT hs2 hSn.2.1 hSn.2.2.2.1 (h210 _ (out _ _ _ ?_))
      rw [if_pos q]
    · refine ⟨vl 85 _ (by omega) (by omega), h210 _ (out _ _ _ ?_)⟩
      rw [if_neg q, show (85 : Int32) = nI 85 from rfl, nI_clamp (by omega), hs2.2.2.2, sub_l]
  · intro k hkn hnx wo2 s2 dd hs2
    have hd := drw_lt z k
    have q1 : drw z k % Pnp P < Pnp P := Nat.mod_lt _ (by omega)
    have q2 : drw z k / 64 % Pnp P < Pnp P := Nat.mod_lt _ (by omega)
    have q3 : drw z k / 8 % Pnn P < Pnn P := Nat.mod_lt _ (by omega)
    refine hJ _ _ _ ?_
    rw [h2.2.2]
    refine it_le (by omega) (by omega) (fun q => absurd q (by omega)) (fun _ => ?_)
    intro xx hx x13 e13
    rw [h1.2.2] at hx
    rw [p_drw h1.2.1 (by omega) hx] at e13
    subst e13
    rw [k0, hT.1]
    refine ⟨vl 0 _ (by omega) (by omega), nI_ne0 (by omega) (by omega), ?_⟩
    intro x14 e14
    rw [pk_rem (by omega) (by omega) (by omega)] at e14
    subst e14
    refine ⟨vl 0 _ (by omega) (by omega), nI_ne0 (by omega) (by omega), ?_⟩
    intro x15 e15
    rw [show (64 : Int32) = nI 64 from rfl, pk_div (by omega) (by omega) (by omega), pk_rem (by omega) (by omega) (by omega)] at e15
    subst e15
    rw [k1, hT.2.1]
    refine ⟨vl 1 _ (by omega) (by omega), nI_ne0 (by omega) (by omega), ?_⟩
    intro x16 e16
    rw [show (8 : Int32) = nI 8 from rfl, pk_div (by omega) (by omega) (by omega), pk_rem (by omega) (by omega) (by omega)] at e16
    intro x17 e17
    rw [m6, a48, nI_add] at e17
    subst e17
    rw [nI_clamp (by omega)]
    have hS2 := SV_flipY hP (SV_yr hP hS z k) (drw z k)
    have go : ∀ s3, rS s3 (flipY P (yr P z w st k).1 (drw z k)) (yr P z w st k).2.1 dd (x5 + nI (yr P z w st k).2.2) → wpX9_passes told s3 (fun wo' s4 => J (nI k + 1) wo' s4) := by
      intro s3 hs3
      refine p_passes hP hT hS2 hs3 ?_
      intro s4 hs4
      rw [nI_1]
      refine hnx _ s4 (dd + 1) ?_
      rw [show (yr P z w st (k + 1)).2.2 = (yr P z w st k).2.2 + lostN P (flipY P (yr P z w st k).1 (drw z k)) (yr P z w st k).2.1 1 from rfl, ← nI_add (yr P z w st k).2.2, ← Int32.add_assoc]
      exact hs4
    intro J179 h179
    have fin : ∀ s3, rS s3 (flipY P (yr P z w st k).1 (drw z k)) (yr P z w st k).2.1 dd (x5 + nI (yr P z w st k).2.2) → J179 s3 := fun s3 hs3 => h179 s3 (go s3 hs3)
    unfold flipY at fin
    refine it_eq (by omega) (by omega) (fun q => ?_) (fun q => ?_)
    · rw [if_pos q] at fin
      exact fin _ hs2
    · rw [if_neg q] at fin
      refine ⟨vl _ _ (by omega) (by omega), ?_⟩
      intro J167 h167
      have hw : s2 (48 + 6 * (drw z k % Pnp P) + drw z k / 64 % Pnp P) = nI (wm (yr P z w st k).1 (drw z k % Pnp P) (drw z k / 64 % Pnp P)) := hs2.2.1 _ (by omega) _ (by omega)
      have yes : (yr P z w st k).1 (drw z k % Pnp P) (drw z k / 64 % Pnp P) (drw z k / 8 % Pnn P) = true ∨ tot (yr P z w st k).1 < 12 → J167 := by
        intro ht
        rw [if_pos ht] at fin
        refine h167 ⟨vl _ _ (by omega) (by omega), vl _ _ (by omega) (by omega), fin _ ?_⟩
        rw [e16]
        exact hs2.word (by omega) (by omega) (by omega)
      have tb : (s2 (48 + 6 * (drw z k % Pnp P) + drw z k / 64 % Pnp P) &&& x16 = 0) ↔ (yr P z w st k).1 (drw z k % Pnp P) (drw z k / 64 % Pnp P) (drw z k / 8 % Pnn P) = false := by
        rw [hw, e16, tst_bit (wm_lt _ _ _) (by omega), wm_tb _ _ _ (by omega)]
      by_cases c : (yr P z w st k).1 (drw z k % Pnp P) (drw z k / 64 % Pnp P) (drw z k / 8 % Pnn P) = true
      · rw [if_neg (fun y => by rw [tb.mp y] at c; cases c)]
        exact yes (Or.inl c)
      · have c2 : (yr P z w st k).1 (drw z k % Pnp P) (drw z k / 64 % Pnp P) (drw z k / 8 % Pnn P) = false := by
          cases e : (yr P z w st k).1 (drw z k % Pnp P) (drw z k / 64 % Pnp P) (drw z k / 8 % Pnn P) with
          | true => exact absurd e c
          | false => rfl
        rw [if_pos (tb.mpr c2)]
        refine p_allWords hs2 ?_
        have ht := (SV_yr hP hS z k).1.2
        refine it_le (a := 12) (by omega) (by omega) (fun y => ?_) (fun y => yes (Or.inr y))
        rw [if_neg (by rintro (y2 | y2); exact c y2; omega)] at fin
        exact fin _ hs2
