/-! pure: game of the reference -/
theorem ltD {a b c d : Nat} {X Y : Prop} (ha : a < 2 ^ 30) (hb : b < 2 ^ 30) (hc : c < 2 ^ 30) (hd : d < 2 ^ 30) (h1 : (a : Int) - b < c - d → X) (h2 : ¬ (a : Int) - b < c - d → Y) : if nI a - nI b < nI c - nI d then X else Y := by
  have e : (nI a - nI b < nI c - nI d) ↔ (a : Int) - b < c - d := by
    rw [Int32.lt_iff_toInt_lt, pk_sub_toInt ha hb, pk_sub_toInt hc hd]
  by_cases y : (a : Int) - b < c - d
  · rw [if_pos (e.mpr y)]; exact h1 y
  · rw [if_neg (fun z => y (e.mp z))]; exact h2 y
theorem rx_no {lo hi b : Nat} (hb : b < 2 ^ 31) (hlo : lo ≤ b) (e : rx lo hi (nI b) = none) : hi < b := by
  unfold rx at e
  split at e
  · cases e
  · rename_i q
    rw [nI_toInt hb] at q
    omega
theorem rx_yes {lo hi b j : Nat} (hb : b < 2 ^ 31) (e : rx lo hi (nI b) = some j) : j = b ∧ b ≤ hi := by
  unfold rx at e
  split at e
  · rename_i q
    cases e
    rw [nI_toInt hb] at q ⊢
    exact ⟨by omega, by omega⟩
  · cases e
theorem p_isChoice {P : aP} {told : Nat → Int32} {c : Nat} {K : Int32 → Prop} (hP : PV1 P) (hT : rT P told) (hc : c < 9) (h1 : (c = 8 ∨ c < Pnn P) → K 1) (h0 : ¬ (c = 8 ∨ c < Pnn P) → K 0) : wpX9_isChoice told (nI c) K := by
  have g8 := hP.2.2
  unfold wpX9_isChoice
  refine it_eq (b := 8) (by omega) (by omega) (fun y => h1 (Or.inl y)) (fun y => ?_)
  refine p_isName9 hP hT (fun j e => i1 (h1 (Or.inr ?_))) (fun e => i0 (h0 ?_))
  · have := rx_yes (by omega) e; omega
  · have := rx_no (by omega) (by omega) e; omega
theorem isM_ex {nn : Nat} {A : Nat → Nat} (hnn : nn ≤ 8) (hA : ∀ c, A c ≤ 1000) : ∃ c, c < 9 ∧ isM nn A c = true := by
  obtain ⟨m, ⟨c, hc1, hc2⟩, hm⟩ := pk_least (fun m => ∃ c, (c = 8 ∨ c < nn) ∧ 1000 - A c = m) ⟨1000 - A 8, 8, Or.inl rfl, rfl⟩
  refine ⟨c, by omega, isM_i hc1 (fun v _ hv => ?_)⟩
  have h1 := hA v
  have h2 := hA c
  rcases Nat.lt_or_ge (1000 - A v) m with y | y
  · exact absurd ⟨v, hv, rfl⟩ (hm _ y)
  · omega
theorem nsum_mulR (f : Nat → Nat) (c n : Nat) : nsum (fun k => f k * c) n = nsum f n * c := by
  induction n with
  | zero => show 0 = 0 * c; omega
  | succ n ih => show nsum (fun k => f k * c) n + f n * c = (nsum f n + f n) * c; rw [ih, Nat.add_mul]
theorem nsum_mulL (f : Nat → Nat) (c n : Nat) : nsum (fun k => c * f k) n = c * nsum f n := by
  induction n with
  | zero => rfl
  | succ n ih => show nsum (fun k => c * f k) n + c * f n = c * (nsum f n + f n); rw [ih, Nat.mul_add]
theorem nsum_mono (f : Nat → Nat) {a b : Nat} (h : a ≤ b) : nsum f a ≤ nsum f b := by
  induction b with
  | zero => rw [show a = 0 by omega]; exact Nat.le_refl _
  | succ b ih =>
    rcases Nat.lt_or_ge b a with y | y
    · rw [show a = b + 1 by omega]; exact Nat.le_refl _
    · exact Nat.le_trans (ih y) (Nat.le_add_right _ _)
def gB (nn : Nat) (A B : Nat → Nat) (v : Nat) : Bool := isM nn A (v / 9) && isM nn B (v % 9)
theorem gB_sum (nn : Nat) (A B : Nat → Nat) : nsum (fun v => bI (gB nn A B v)) 81 = gN nn A * gN nn B := by
  have hb : ∀ x y : Bool, bI (x && y) = bI x * bI y := by decide
  rw [show (81 : Nat) = 9 * 9 from rfl, nsum_mul]
  unfold gN
  rw [← nsum_mulR]
  refine nsum_congr (fun a ha => ?_)
  rw [← nsum_mulL]
  refine nsum_congr (fun b hb2 => ?_)
  unfold gB
  rw [show (9 * a + b) / 9 = a by omega, show (9 * a + b) % 9 = b by omega, hb]
theorem gB_first {nn : Nat} {A B : Nat → Nat} {v : Nat} (hv : v < 81) (h1 : gB nn A B v = true) (h2 : ∀ u, u < v → gB nn A B u = false) : gF nn A = v / 9 ∧ gF nn B = v % 9 := by
  unfold gB at h1
  rw [Bool.and_eq_true] at h1
  constructor
  · refine fd_eq (by omega) (fun c hc => ?_) (fun _ => h1.1)
    have := h2 (9 * c + v % 9) (by omega)
    unfold gB at this
    rw [show (9 * c + v % 9) / 9 = c by omega, show (9 * c + v % 9) % 9 = v % 9 by omega, h1.2, Bool.and_true] at this
    exact this
  · refine fd_eq (by omega) (fun c hc => ?_) (fun _ => h1.2)
    have := h2 (9 * (v / 9) + c) (by omega)
    unfold gB at this
    rw [show (9 * (v / 9) + c) / 9 = v / 9 by omega, show (9 * (v / 9) + c) % 9 = c by omega, h1.1, Bool.true_and] at this
    exact this
theorem down {J : Nat → Prop} (h0 : J 0) (hs : ∀ k, k < 81 → J k → J (k + 1)) : J 81 := by
  have key : ∀ n, n ≤ 81 → J n := by
    intro n
    induction n with
    | zero => intro _; exact h0
    | succ n ih => intro h; exact hs n (by omega) (ih (by omega))
  exact key 81 (Nat.le_refl _)
theorem add_m1 (x : Int32) : x + (-1) = x - 1 := (Int32.sub_eq_add_neg x 1).symm
theorem r_game {P : aP} {told s held worth : Nat → Int32} {w : aW} {st : aT} {d l wo : Int32} {x y z u : Int32} {K : Int32 → Int32 → (Nat → Int32) → (Nat → Int32) → (Nat → Int32) → Prop} (hP : PV1 P) (hT : rT P told) (h : rS s w st d l) (hS : SV P w st)
    (hK : ∀ wo s' held' worth', rS s' w st d l → K (aGame P w st x y z u) wo s' held' worth') : wpX9_game wo told s held worth x y z u K := by
  have h6 := hP.1.1
  have h8 := hP.1.2.1
  have hu := hP.1.2.2.2.2.2.2.1
  unfold wpX9_game
  unfold aGame iG at hK
  refine p_areTwo hP hT (fun v e1 => i1 ?_) (fun e1 => i0 (by rw [e1] at hK; exact hK _ _ _ _ h))
  refine p_in9 (lo := 1) (hi := 10) (by omega) (by omega) (fun t e2 => i1 ?_) (fun e2 => i0 (by rw [e1, e2] at hK; exact hK _ _ _ _ h))
  refine p_in9 (lo := 0) (hi := 1) (by omega) (by omega) (fun k e3 => i1 ?_) (fun e3 => i0 (by rw [e1, e2, e3] at hK; exact hK _ _ _ _ h))
  have g1 := iPP_s hP e1
  have g2 := rx_some e2
  have g3 := rx_some e3
  rw [e1, e2, e3] at hK
  dsimp only at hK
  rw [g1.2.2.2.1, g1.2.2.2.2, g2.2.2, g3.2.2]
  refine p_holds ?_
  intro held2 hh2
  refine p_plays hP hT hS g1.1 g1.2.1 g1.2.2.1 (by omega) h (rS_copy h hh2) ?_
  intro wo2 f g hf hg
  obtain ⟨A, eA⟩ : ∃ A, gA P w st v.1 v.2 t = A := ⟨_, rfl⟩
  obtain ⟨B, eB⟩ : ∃ B, gA P w st v.2 v.1 t = B := ⟨_, rfl⟩
  have hA : ∀ c, A c ≤ 160 := by
    intro c
    rw [← eA]
    exact sumL_le (st := itS (Dp P (wch w v.1 v.2 c) v.2) (st v.2) t) (row := Punk P) (b := 20) (fun k => by have := hu k; omega) 8
  have hB : ∀ c, B c ≤ 160 := by
    intro c
    rw [← eB]
    exact sumL_le (st := itS (Dp P (wch w v.2 v.1 c) v.1) (st v.1) t) (row := Punk P) (b := 20) (fun k => by have := hu k; omega) 8
  rw [eA, eB] at hK hg
  intro J53 h53
  suffices key : ∀ v8 v9, v8 = nI (nsum (fun v => bI (gB (Pnn P) A B v)) 81 - nsum (fun v => bI (gB (Pnn P) A B v)) 81) → ((∀ m, 81 ≤ m → m < 81 → gB (Pnn P) A B m = false) ∧ v9 = -4 ∨ ∃ m, 81 ≤ m ∧ m < 81 ∧ gB (Pnn P) A B m = true ∧ (∀ u, 81 ≤ u → u < m → gB (Pnn P) A B u = false) ∧ v9 = nI (10 * shc (m / 9) + shc (m % 9))) → J53 v8 v9 (nI 81 - 1) from key 0 (-4) (by rw [Nat.sub_self]; rfl) (Or.inl ⟨fun m h1 h2 => by omega, rfl⟩)
  refine down (J := fun k => ∀ v8 v9, v8 = nI (nsum (fun v => bI (gB (Pnn P) A B v)) 81 - nsum (fun v => bI (gB (Pnn P) A B v)) k) → ((∀ m, k ≤ m → m < 81 → gB (Pnn P) A B m = false) ∧ v9 = -4 ∨ ∃ m, k ≤ m ∧ m < 81 ∧ gB (Pnn P) A B m = true ∧ (∀ u, k ≤ u → u < m → gB (Pnn P) A B u = false) ∧ v9 = nI (10 * shc (m / 9) + shc (m % 9))) → J53 v8 v9 (nI k - 1)) ?_ ?_
  · intro v8 v9 e8 e9
    refine h53 _ _ _ ?_
    rw [if_pos (show (nI 0 - 1 : Int32) < 0 by decide)]
    have e8' : v8 = nI (gN (Pnn P) A * gN (Pnn P) B) := by
      rw [e8, ← gB_sum]
      rfl
    have e9' : v9 = nI (10 * shc (gF (Pnn P) A) + shc (gF (Pnn P) B)) := by
      rcases e9 with ⟨hno, _⟩ | ⟨m, _, hm, hm1, hm2, e⟩
      · exfalso
        obtain ⟨a, ha, ha2⟩ := isM_ex h8 (fun c => Nat.le_trans (hA c) (by decide))
        obtain ⟨b, hb, hb2⟩ := isM_ex h8 (fun c => Nat.le_trans (hB c) (by decide))
        have := hno (9 * a + b) (by omega) (by omega)
        unfold gB at this
        rw [show (9 * a + b) / 9 = a by omega, show (9 * a + b) % 9 = b by omega, ha2, hb2] at this
        cases this
      · obtain ⟨f1, f2⟩ := gB_first hm hm1 (fun u hu2 => hm2 u (by omega) hu2)
        rw [e, f1, f2]
    rw [e8', e9']
    refine it_eq (b := 0) (by omega) (by omega) (fun q => ?_) (fun q => ?_)
    · rw [if_pos q] at hK; exact hK _ _ _ _ hf
    · rw [if_neg q] at hK; exact hK _ _ _ _ hf
  · intro m hm ih v8 v9 e8 e9
    refine h53 _ _ _ ?_
    rw [nI_pred, if_neg (nI_pos (by omega))]
    intro x11 e11 x12 e12
    rw [show (9 : Int32) = nI 9 from rfl, pk_div (by omega) (by omega) (by omega)] at e11
    rw [show (9 : Int32) = nI 9 from rfl, pk_rem (by omega) (by omega) (by omega)] at e12
    subst e11; subst e12
    have hs : nsum (fun v => bI (gB (Pnn P) A B v)) (m + 1) = nsum (fun v => bI (gB (Pnn P) A B v)) m + bI (gB (Pnn P) A B m) := rfl
    have hmo : nsum (fun v => bI (gB (Pnn P) A B v)) (m + 1) ≤ nsum (fun v => bI (gB (Pnn P) A B v)) 81 := nsum_mono _ (by omega)
    -- what follows when it is known whether this pair rests
    have no : gB (Pnn P) A B m = false → ∀ (J192 : Int32 → Prop), (∀ v_17 : Int32, (∀ x_18 : Int32, x_18 = v8 + v_17 → (∀ J237 : Int32 → Prop, (∀ (v_19 : Int32), J53 x_18 v_19 (nI m + (-1)) → J237 v_19) → J237 v9)) → J192 v_17) → J192 0 := by
      intro hg0 J192 h192
      refine h192 _ ?_
      intro x18 e18 J237 h237
      refine h237 _ ?_
      rw [add_m1]
      refine ih _ _ ?_ ?_
      · rw [e18, e8, hs, hg0, show bI false = 0 from rfl, Int32.add_zero, Nat.add_zero]
      · rcases e9 with ⟨hno, e⟩ | ⟨b, b1, b2, b3, b4, e⟩
        · refine Or.inl ⟨fun c h1 h2 => ?_, e⟩
          rcases Nat.lt_or_ge m c with y | y
          · exact hno c y h2
          · rw [show c = m by omega]; exact hg0
        · refine Or.inr ⟨b, by omega, b2, b3, fun c h1 h2 => ?_, e⟩
          rcases Nat.lt_or_ge m c with y | y
          · exact b4 c y h2
          · rw [show c = m by omega]; exact hg0
    have yes : gB (Pnn P) A B m = true → ∀ (J192 : Int32 → Prop), (∀ v_17 : Int32, (∀ x_18 : Int32, x_18 = v8 + v_17 → (∀ J237 : Int32 → Prop, (∀ (v_19 : Int32), J53 x_18 v_19 (nI m + (-1)) → J237 v_19) → (∀ J216 : Int32 → Prop, (∀ (v_20 : Int32), (∀ J231 : Int32 → Prop, (∀ (v_21 : Int32), J237 ((10 * v_20) + v_21) → J231 v_21) → (if nI (m % 9) = 8 then J231 9 else J231 (nI (m % 9)))) → J216 v_20) → (if nI (m / 9) = 8 then J216 9 else J216 (nI (m / 9)))))) → J192 v_17) → J192 1 := by
      intro hg1 J192 h192
      refine h192 _ ?_
      intro x18 e18 J237 h237 J216 h216
      have fin : J216 (nI (shc (m / 9))) := by
        refine h216 _ ?_
        intro J231 h231
        have fin2 : J231 (nI (shc (m % 9))) := by
          refine h231 _ (h237 _ ?_)
          rw [m10, nI_add, add_m1]
          refine ih _ _ ?_ (Or.inr ⟨m, Nat.le_refl m, hm, hg1, fun c h1 h2 => by omega, rfl⟩)
          rw [e18, e8, show (1 : Int32) = nI 1 from rfl, nI_add, hs, hg1, show bI true = 1 from rfl]
          congr 1
          rw [hs, hg1, show bI true = 1 from rfl] at hmo
          omega
        unfold shc at fin2
        refine it_eq (b := 8) (by omega) (by omega) (fun q => ?_) (fun q => ?_)
        · rw [if_pos q] at fin2; exact fin2
        · rw [if_neg q] at fin2; exact fin2
      unfold shc at fin
      refine it_eq (b := 8) (by omega) (by omega) (fun q => ?_) (fun q => ?_)
      · rw [if_pos q] at fin; exact fin
      · rw [if_neg q] at fin; exact fin
    have gf : ∀ {Q : Prop}, ¬ Q → (gB (Pnn P) A B m = true → Q) → gB (Pnn P) A B m = false := fun hq hi => b_f (fun z => hq (hi z))
    have gt : gB (Pnn P) A B m = true → ((m / 9 = 8 ∨ m / 9 < Pnn P) ∧ ∀ v, v < 9 → (v = 8 ∨ v < Pnn P) → A v ≤ A (m / 9)) ∧ ((m % 9 = 8 ∨ m % 9 < Pnn P) ∧ ∀ v, v < 9 → (v = 8 ∨ v < Pnn P) → B v ≤ B (m % 9)) := by
      intro q
      unfold gB at q
      rw [Bool.and_eq_true] at q
      exact ⟨isM_t q.1, isM_t q.2⟩
    have hc1 : m / 9 < 9 := by omega
    have hc2 : m % 9 < 9 := by omega
    have wm0 : g m = nI (A (m / 9)) - nI (B (m % 9)) := by
      have := hg (m / 9) hc1 (m % 9) hc2
      rw [show 9 * (m / 9) + m % 9 = m by omega] at this
      exact this
    refine p_isChoice hP hT hc1 (fun q1 => ?_) (fun q1 => ?_)
    all_goals
      intro J95 h95 J94 h94
    · refine i1 ?_
      refine p_isChoice hP hT hc2 (fun q2 => i1 ?_) (fun q2 => i0 ?_)
      · refine h95 _ ?_
        intro J100 h100
        suffices key : ∀ v15, (v15 = 1 ∧ (∀ v, v < 0 → (v = 8 ∨ v < Pnn P) → A v ≤ A (m / 9) ∧ B v ≤ B (m % 9)) ∨ v15 = 0 ∧ gB (Pnn P) A B m = false) → J100 v15 (nI 0) from key 1 (Or.inl ⟨rfl, fun v hv => absurd hv (by omega)⟩)
        refine kloop (J := fun b => ∀ v15, (v15 = 1 ∧ (∀ v, v < b → (v = 8 ∨ v < Pnn P) → A v ≤ A (m / 9) ∧ B v ≤ B (m % 9)) ∨ v15 = 0 ∧ gB (Pnn P) A B m = false) → J100 v15 (nI b)) (N := 9) ?_ ?_
        · intro v15 hv
          refine h100 _ _ ?_
          intro J180 h180
          rw [if_pos (show (9 : Int32) ≤ nI 9 by decide)]
          refine h180 ?_
          intro J192 h192
          rcases hv with ⟨e, hall⟩ | ⟨e, hg0⟩
          · rw [e] at h192 ⊢
            rw [if_neg (by decide)]
            refine yes ?_ J192 h192
            unfold gB
            rw [isM_i q1 (fun v hv1 hv2 => (hall v hv1 hv2).1), isM_i q2 (fun v hv1 hv2 => (hall v hv1 hv2).2)]
            rfl
          · rw [e] at h192 ⊢
            rw [if_pos rfl]
            exact no hg0 J192 h192
        · intro b hb hnb v15 hv
          refine h100 _ _ ?_
          intro J180 h180
          refine it_le (a := 9) (by omega) (by omega) (fun y => absurd y (by omega)) (fun _ => ?_)
          rcases hv with ⟨e, hall⟩ | ⟨e, hg0⟩
          · rw [e] at h180 ⊢
            rw [if_neg (by decide)]
            have st : ((b = 8 ∨ b < Pnn P) → A b ≤ A (m / 9) ∧ B b ≤ B (m % 9)) → J100 1 (nI b + 1) := by
              intro q
              rw [nI_1]
              refine hnb _ (Or.inl ⟨rfl, fun v hv1 hv2 => ?_⟩)
              rcases Nat.lt_or_ge v b with y | y
              · exact hall v y hv2
              · rw [show v = b by omega] at hv2 ⊢; exact q hv2
            have sn : gB (Pnn P) A B m = false → J100 0 (nI b + 1) := by
              intro q
              rw [nI_1]
              exact hnb _ (Or.inr ⟨rfl, q⟩)
            refine p_isChoice hP hT hb (fun q3 => ?_) (fun q3 => ?_)
            · intro J172 h172 J167 h167
              refine i1 ?_
              rw [show (9 : Int32) = nI 9 from rfl, pk_mul, pk_mul, nI_add, nI_add, nI_clamp (by omega), nI_clamp (by omega), nI_clamp (by omega), hg b hb _ hc2, hg _ hc1 b hb, wm0]
              refine ⟨vl _ _ (by omega) (by omega), vl _ _ (by omega) (by omega), ?_⟩
              intro J171 h171
              have b1 := hA b
              have b2 := hB b
              have b3 := hA (m / 9)
              have b4 := hB (m % 9)
              refine ltD (by omega) (by omega) (by omega) (by omega) (fun q => h171 (h172 _ (sn (gf (Q := A b ≤ A (m / 9)) (by omega) (fun z => (gt z).1.2 b hb q3))))) (fun q => ?_)
              refine ⟨vl _ _ (by omega) (by omega), vl _ _ (by omega) (by omega), ?_⟩
              refine ltD (by omega) (by omega) (by omega) (by omega) (fun q4 => h171 (h172 _ (sn (gf (Q := B b ≤ B (m % 9)) (by omega) (fun z => (gt z).2.2 b hb q3))))) (fun q4 => ?_)
              exact h167 (h172 _ (st (fun _ => ⟨by omega, by omega⟩)))
            · intro J172 h172 J167 h167
              refine i0 (h167 (h172 _ (st (fun z => absurd z q3))))
          · rw [e] at h180 ⊢
            rw [if_pos rfl]
            refine h180 ?_
            intro J192 h192
            rw [if_pos rfl]
            exact no hg0 J192 h192
      · refine h94 (h95 _ ?_)
        intro J100 h100
        refine h100 _ _ ?_
        intro J180 h180
        rw [if_neg (show ¬ (9 : Int32) ≤ 0 by decide), if_pos rfl]
        refine h180 ?_
        intro J192 h192
        rw [if_pos rfl]
        exact no (gf q2 (fun z => (gt z).2.1)) J192 h192
    · refine i0 (h94 (h95 _ ?_))
      intro J100 h100
      refine h100 _ _ ?_
      intro J180 h180
      rw [if_neg (show ¬ (9 : Int32) ≤ 0 by decide), if_pos rfl]
      refine h180 ?_
      intro J192 h192
      rw [if_pos rfl]
      exact no (gf q1 (fun z => (gt z).1.1)) J192 h192
