/-! pure: rooms -/
abbrev hasU (P : aP) (s : Nat → Nat) (u : Nat) : Prop := ∃ n, n < Pnn P ∧ 0 < s n ∧ Punk P n = u
def rmF (P : aP) (s : Nat → Nat) : Nat → Nat → Nat → Nat
  | 0, _, _ => 0
  | f + 1, u, T => if T ≤ u ∧ hasU P s u then 1 + rmF P s f (u + 1) (u + Pq P) else rmF P s f (u + 1) T
theorem p_hasAs {P : aP} {s : Nat → Nat} {hs pu : Nat → Int32} {u : Nat} {K : Int32 → Prop} (hnn : Pnn P ≤ 8) (hu : ∀ n, Punk P n < 21) (hu2 : u < 21) (hv : V s) (hh : Rp 8 hs s) (hp : Rp (Pnn P) pu (Punk P)) (h1 : hasU P s u → K 1) (h0 : ¬ hasU P s u → K 0) : wpX0_hasAsUnkind hs (nI (Pnn P)) pu (nI u) K := by
  unfold wpX0_hasAsUnkind
  intro J hJ
  suffices key : (∀ n, n < 0 → ¬ (0 < s n ∧ Punk P n = u)) → J (nI 0) from key (fun n hn => absurd hn (by omega))
  refine kloop (J := fun k => (∀ n, n < k → ¬ (0 < s n ∧ Punk P n = u)) → J (nI k)) (N := Pnn P) ?_ ?_
  · intro h
    refine hJ _ (it_le (by omega) (by omega) (fun _ => h0 ?_) (fun q => absurd q (by omega)))
    rintro ⟨n, h2, h3, h4⟩
    exact h n h2 ⟨h3, h4⟩
  · intro k hk hnx h
    refine hJ _ (it_le (by omega) (by omega) (fun q => absurd q (by omega)) (fun _ => ?_))
    refine p_atR hh (by omega) (by omega) (by decide) ?_
    intro J41 h41
    have hvk := hv k
    have go : ¬ (0 < s k ∧ Punk P k = u) → J41 := by
      intro q
      refine h41 ?_
      rw [nI_1]
      refine hnx (fun n hn => ?_)
      rcases Nat.lt_or_ge n k with y | y
      · exact h n y
      · rw [show n = k by omega]; exact q
    refine it_le (b := 0) (by omega) (by omega) (fun q => go (fun z => by omega)) (fun q => ?_)
    refine p_atR hp (by omega) hk (by decide) ?_
    have := hu k
    refine it_eq (by omega) (by omega) (fun z => h1 ⟨k, hk, by omega, z⟩) (fun z => go (fun y => z y.2))
theorem p_fewest {P : aP} {s : Nat → Nat} {hs pu : Nat → Int32} {K : Int32 → Prop} (hP : PV P) (hv : V s) (hh : Rp 8 hs s) (hp : Rp (Pnn P) pu (Punk P)) (hK : K (nI (rmF P s 21 0 0))) : wpX0_fewestRooms hs (nI (Pnn P)) (nI (Pq P)) pu K := by
  obtain ⟨hnp, hnn, hq, hkd, hbd, hfd, hu, he⟩ := hP
  unfold wpX0_fewestRooms
  intro J hJ
  obtain ⟨G, hG⟩ : ∃ G, rmF P s 21 0 0 = G := ⟨_, rfl⟩
  rw [hG] at hK
  suffices key : ∀ r T, T < 50 → r + rmF P s (21 - 0) 0 T = G → J (nI r) (nI T - 1) (nI 0) from key 0 0 (by omega) (by rw [Nat.zero_add]; exact hG)
  refine kloop (J := fun u => ∀ r T, T < 50 → r + rmF P s (21 - u) u T = G → J (nI r) (nI T - 1) (nI u)) (N := 21) ?_ ?_
  · intro r T hT e
    refine hJ _ _ _ (it_lt (a := 20) (by omega) (by omega) (fun _ => ?_) (fun q => absurd q (by omega)))
    rw [show rmF P s (21 - 21) 21 T = 0 from rfl, Nat.add_zero] at e
    rw [e]
    exact hK
  · intro u hu21 hnx r T hT e
    refine hJ _ _ _ (it_lt (a := 20) (by omega) (by omega) (fun q => absurd q (by omega)) (fun _ => ?_))
    rw [show 21 - u = (21 - (u + 1)) + 1 by omega] at e
    unfold rmF at e
    intro J40 h40
    have skip : ¬ (T ≤ u ∧ hasU P s u) → J40 (nI r) (nI T - 1) := by
      intro q
      rw [if_neg q] at e
      refine h40 _ _ ?_
      rw [nI_1]
      exact hnx r T hT e
    have look : T ≤ u → wpX0_hasAsUnkind hs (nI (Pnn P)) pu (nI u) (fun r_6 => if r_6 = 0 then J40 (nI r) (nI T - 1) else ∀ x_7 : Int32, x_7 = nI u + nI (Pq P) - 1 → J40 (nI r + 1) x_7) := by
      intro hTu
      refine p_hasAs hnn hu hu21 hv hh hp (fun q => i1 ?_) (fun q => i0 (skip (fun z => q z.2)))
      intro x7 e7
      rw [if_pos ⟨hTu, q⟩] at e
      refine h40 _ _ ?_
      rw [nI_1, nI_1, e7, nI_add]
      exact hnx (r + 1) (u + Pq P) (by omega) (by omega)
    cases T with
    | zero =>
      have : ¬ nI u ≤ nI 0 - 1 := by
        intro z
        have z2 := Int32.le_iff_toInt_le.mp z
        rw [nI_toInt (by omega), show (nI 0 - 1 : Int32).toInt = -1 by decide] at z2
        omega
      rw [if_neg this]
      exact look (by omega)
    | succ T =>
      rw [nI_pred] at skip look ⊢
      exact it_le (by omega) (by omega) (fun z => skip (fun y => by omega)) (fun z => look (by omega))
theorem rmF_skip {P : aP} {s : Nat → Nat} {T u0 : Nat} (h0 : u0 ≤ 21) : ∀ d u, u + d = u0 → (∀ v, u ≤ v → v < u0 → ¬ (T ≤ v ∧ hasU P s v)) → rmF P s (21 - u) u T = rmF P s (21 - u0) u0 T := by
  intro d
  induction d with
  | zero => intro u hu _; rw [show u = u0 by omega]
  | succ d ih =>
    intro u hu h
    rw [show 21 - u = (21 - (u + 1)) + 1 by omega]
    show (if T ≤ u ∧ hasU P s u then 1 + rmF P s (21 - (u + 1)) (u + 1) (u + Pq P) else rmF P s (21 - (u + 1)) (u + 1) T) = _
    rw [if_neg (h u (Nat.le_refl u) (by omega))]
    exact ih (u + 1) (by omega) (fun v h1 h2 => h v (by omega) h2)
def rmR (P : aP) (s : Nat → Nat) (T : Nat) : Nat := rmF P s (21 - T) T T
theorem rmR_up {P : aP} {s : Nat → Nat} {T u : Nat} (h : u ≤ T) (hu : u ≤ 21) : rmF P s (21 - u) u T = rmR P s T := by
  unfold rmR
  rcases Nat.le_total T 21 with z | z
  · exact rmF_skip z (T - u) u (by omega) (fun v _ h2 q => by omega)
  · rw [rmF_skip (u0 := 21) (Nat.le_refl 21) (21 - u) u (by omega) (fun v _ h2 q => by omega), show 21 - T = 0 by omega]
    rfl
theorem rmR_no {P : aP} {s : Nat → Nat} {T : Nat} (hT : T ≤ 21) (h : ∀ v, T ≤ v → ¬ hasU P s v) : rmR P s T = 0 := by
  unfold rmR
  rw [rmF_skip (u0 := 21) (Nat.le_refl 21) (21 - T) T (by omega) (fun v h1 _ q => h v h1 q.2)]
  rfl
theorem rmR_yes {P : aP} {s : Nat → Nat} {T u : Nat} (hq : 1 ≤ Pq P) (hu : u < 21) (hT : T ≤ u) (h : hasU P s u) (hm : ∀ v, T ≤ v → v < u → ¬ hasU P s v) : rmR P s T = 1 + rmR P s (u + Pq P) := by
  rw [← rmR_up (T := u + Pq P) (u := u + 1) (by omega) (by omega)]
  unfold rmR
  rw [rmF_skip (u0 := u) (by omega) (u - T) T (by omega) (fun v h1 h2 q => hm v h1 h2 q.2), show 21 - u = (21 - (u + 1)) + 1 by omega]
  show (if T ≤ u ∧ hasU P s u then 1 + rmF P s (21 - (u + 1)) (u + 1) (u + Pq P) else rmF P s (21 - (u + 1)) (u + 1) T) = _
  rw [if_pos ⟨hT, h⟩]
def aRooms (P : aP) (st : aT) (x : Int32) : Int32 := match iP P x with
  | some p => nI (rmF P (st p) 21 0 0)
  | none => -1
theorem c_rooms {P : aP} {w : aW} {st : aT} {np nn q hk hb hf : Int32} {hw : Int64} {hs kinds beds foods pu pe f : Nat → Int32} {rows : Nat → Int64} {x : Int32} {K : Int32 → Int32 → Int32 → Int32 → Int64 → (Nat → Int32) → Prop} (hP : PV1 P) (hR : rPt P np nn q kinds beds foods pu pe) (hwr : rW rows w) (h : rD f st) (hv : ∀ p, V (st p))
    (hK : ∀ a b c e g, K (aRooms P st x) a b c e g) : wpX8_rooms np nn q kinds beds foods pu rows f hk hb hf hw hs x K := by
  have h6 := hP.1.1
  have h1 := hP.2.1
  unfold wpX8_rooms
  unfold aRooms at hK
  rw [hR.1]
  refine p_isPerson hP (fun p e => i1 ?_) (fun e => i0 (by rw [e] at hK; exact hK _ _ _ _ _))
  have hx := rx_some e
  rw [e] at hK
  rw [hx.2.2]
  refine p_enter hP.1 hR (by omega) hwr h ?_
  intro g hg
  rw [hR.2.1, hR.2.2.1]
  exact p_fewest hP.1 (hv p) hg hR.2.2.2.2.2.2.1 (hK _ _ _ _ _)
/-- the bits of those that lodge and are at least so unkind -/
def lfB (P : aP) (s : Nat → Nat) (T n : Nat) : Bool := decide (0 < s n) && decide (T ≤ Punk P n)
def clr (a n : Nat) : Nat := if a.testBit n then a - 2 ^ n else a
theorem clr_i : ∀ n, n < 8 → ∀ a, a < 256 → nI a &&& ((1 <<< (nI n &&& 31)) ^^^ (-1)) = nI (clr a n) := by decide +kernel
theorem clr_lt (a n : Nat) (h : a < 256) : clr a n < 256 := by
  unfold clr
  split
  · exact Nat.lt_of_le_of_lt (Nat.sub_le _ _) h
  · exact h
theorem clr_t : ∀ n, n < 8 → ∀ a, a < 256 → ∀ k, k < 8 → (clr a n).testBit k = (a.testBit k && decide (k ≠ n)) := by decide +kernel
theorem bt_m1 : ∀ i, i < 32 → bt (-1) i = true := by decide +kernel
theorem and_m1 (x : Int32) : x &&& -1 = x := b_ext (fun i hi => by rw [b_and, bt_m1 i hi, Bool.and_true])
theorem r_roomsA {P : aP} {told : Nat → Int32} {s : Nat → Nat} {K : Int32 → Prop} (hP : PV P) (hT : rT P told) (hz : Z (Pnn P) s) {J18 : Int32 → Int32 → Prop}
    (hJ : ∀ (v_3 : Int32) (v_4 : Int32), (if v_4 = 0 then K v_3 else (∀ J28 : Int32 → Int32 → Prop, (∀ (v_5 : Int32) (v_6 : Int32), (if 8 ≤ v_6 then (∀ J91 : Int32 → Int32 → Prop, (∀ (v_7 : Int32) (v_8 : Int32), (if 8 ≤ v_8 then J18 (v_3 + 1) v_7 else (wpX9_quarrels told v_5 v_8 (fun (r_9 : Int32) => (∀ J120 : Int32 → Prop, (∀ (v_10 : Int32), (∀ x_11 : Int32, x_11 = (v_7 &&& v_10) → J91 x_11 (v_8 + 1)) → J120 v_10) → (if r_9 = 0 then J120 ((1 <<< (v_8 &&& 31)) ^^^ (-1)) else J120 (-1)))))) → J91 v_7 v_8) → J91 v_4 0) else (∀ J80 : Int32 → Prop, (∀ (v_12 : Int32), J28 v_12 (v_6 + 1) → J80 v_12) → (∀ J78 : Prop, (J80 v_5 → J78) → (if ((v_4 >>> (v_6 &&& 31)) &&& 1) = 1 then (∀ J73 : Prop, (J80 v_6 → J73) → (if v_5 < 0 then J73 else (vp_in (21 + v_6) 37 ∧ (vp_in (21 + v_5) 37 ∧ (if (told (Int32.toNatClampNeg (21 + v_5))) ≤ (told (Int32.toNatClampNeg (21 + v_6))) then J78 else J73))))) else J78)))) → J28 v_5 v_6) → J28 (-1) 0)) → J18 v_3 v_4)
    {G : Nat} (hK : K (nI G)) : ∀ n T c, rmR P s T = n → c + n = G → T < 50 → J18 (nI c) (nI (bsum (lfB P s T) 8)) := by
  obtain ⟨t0, t1, t2, t3, t9, t15, t21, t29⟩ := id hT
  obtain ⟨hnp, hnn, hq, hkd, hbd, hfd, hu, he⟩ := id hP
  have has : ∀ v, hasU P s v → ∃ n, n < 8 ∧ 0 < s n ∧ Punk P n = v := fun v ⟨n, h1, h2, h3⟩ => ⟨n, by omega, h2, h3⟩
  have sah : ∀ m v, 0 < s m → Punk P m = v → hasU P s v := fun m v h1 h2 => by
    refine ⟨m, ?_, h1, h2⟩
    rcases Nat.lt_or_ge m (Pnn P) with y | y
    · exact y
    · have := hz m y; omega
  intro n
  induction n with
  | zero =>
    intro T c hn hc hT5
    refine hJ _ _ ?_
    have e : bsum (lfB P s T) 8 = 0 := by
      symm
      refine bsum_eq (by decide) (fun m hm => ?_)
      rw [Nat.zero_testBit]
      symm
      cases ee : lfB P s T m with
      | false => rfl
      | true =>
        exfalso
        unfold lfB at ee
        rw [Bool.and_eq_true, decide_eq_true_eq, decide_eq_true_eq] at ee
        -- the least one of these
        obtain ⟨u, ⟨u1, u2⟩, u3⟩ := pk_least (fun v => T ≤ v ∧ hasU P s v) ⟨Punk P m, ee.2, sah m _ ee.1 rfl⟩
        obtain ⟨b, _, _, hb⟩ := has u u2
        have := rmR_yes hq.1 (by rw [← hb]; exact hu b) u1 u2 (fun v h1 h2 h3 => u3 v h2 ⟨h1, h3⟩)
        omega
    rw [e, if_pos (show nI 0 = 0 from rfl), show c = G by omega]
    exact hK
  | succ n ih =>
    intro T c hn hc hT5
    refine hJ _ _ ?_
    have hne : ¬ nI (bsum (lfB P s T) 8) = 0 := by
      intro z
      have hb := bsum_lt (lfB P s T) 8
      rw [show (0 : Int32) = nI 0 from rfl, nI_eq (by omega) (by omega)] at z
      have : rmR P s T = 0 := by
        rcases Nat.lt_or_ge 21 T with y | y
        · unfold rmR; rw [show 21 - T = 0 by omega]; rfl
        · refine rmR_no y (fun v hv hh => ?_)
          obtain ⟨m, m1, m2, m3⟩ := has v hh
          have tb := bsum_tb (lfB P s T) 8 m
          rw [z, Nat.zero_testBit] at tb
          unfold lfB at tb
          rw [decide_eq_true m1, decide_eq_true m2, decide_eq_true (show T ≤ Punk P m by omega)] at tb
          cases tb
      omega
    rw [if_neg hne]
    have hb8 := bsum_lt (lfB P s T) 8
    intro J28 h28
    have bit : ∀ k, k < 8 → ((nI (bsum (lfB P s T) 8) >>> (nI k &&& 31)) &&& 1) = nI (bI (lfB P s T k)) := by
      intro k hk
      rw [sh_bit hb8 hk, bsum_tb, decide_eq_true hk, Bool.true_and]
    suffices key : ∀ v5, (v5 = -1 ∧ (∀ m, m < 0 → lfB P s T m = false)) ∨ (∃ b, v5 = nI b ∧ b < 8 ∧ lfB P s T b = true ∧ ∀ m, m < 0 → lfB P s T m = true → Punk P b ≤ Punk P m) → J28 v5 (nI 0) from key (-1) (Or.inl ⟨rfl, fun m hm => absurd hm (by omega)⟩)
    refine kloop (J := fun k => ∀ v5, (v5 = -1 ∧ (∀ m, m < k → lfB P s T m = false)) ∨ (∃ b, v5 = nI b ∧ b < 8 ∧ lfB P s T b = true ∧ ∀ m, m < k → lfB P s T m = true → Punk P b ≤ Punk P m) → J28 v5 (nI k)) (N := 8) ?_ ?_
    · intro v5 hv5
      refine h28 _ _ (it_le (a := 8) (by omega) (by omega) (fun _ => ?_) (fun y => absurd y (by omega)))
      rcases hv5 with ⟨_, hno⟩ | ⟨b, hb1, hb2, hb3, hb4⟩
      · exfalso
        refine hne ?_
        rw [show bsum (lfB P s T) 8 = 0 from (bsum_eq (by decide) (fun m hm => by rw [Nat.zero_testBit, hno m hm])).symm]
        rfl
      · have hb3' := hb3
        unfold lfB at hb3'
        rw [Bool.and_eq_true, decide_eq_true_eq, decide_eq_true_eq] at hb3'
        have hR := rmR_yes (P := P) (s := s) (T := T) (u := Punk P b) hq.1 (hu b) hb3'.2 (sah b _ hb3'.1 rfl) (fun v h1 h2 h3 => by
          obtain ⟨m, m1, m2, m3⟩ := has v h3
          have : lfB P s T m = true := by unfold lfB; rw [decide_eq_true m2, decide_eq_true (show T ≤ Punk P m by omega)]; rfl
          have := hb4 m m1 this
          omega)
        have hub := hu b
        intro J91 h91
        suffices key : ∀ a, a < 256 → (∀ m, m < 8 → a.testBit m = (lfB P s T m && (decide (0 ≤ m) || (decide (b ≠ m) && decide (Pq P ≤ (Punk P b - Punk P m) + (Punk P m - Punk P b)))))) → J91 (nI a) (nI 0) by
          refine key _ hb8 (fun m hm => ?_)
          rw [bsum_tb, decide_eq_true hm, decide_eq_true (Nat.zero_le m)]
          simp
        refine kloop (J := fun k => ∀ a, a < 256 → (∀ m, m < 8 → a.testBit m = (lfB P s T m && (decide (k ≤ m) || (decide (b ≠ m) && decide (Pq P ≤ (Punk P b - Punk P m) + (Punk P m - Punk P b)))))) → J91 (nI a) (nI k)) (N := 8) ?_ ?_
        · intro a ha hab
          refine h91 _ _ (it_le (a := 8) (by omega) (by omega) (fun _ => ?_) (fun y => absurd y (by omega)))
          have ea : a = bsum (lfB P s (Punk P b + Pq P)) 8 := by
            refine bsum_eq ha (fun m hm => ?_)
            rw [hab m hm, decide_eq_false (show ¬ 8 ≤ m by omega), Bool.false_or]
            cases e : lfB P s T m with
            | false =>
              rw [Bool.false_and]
              symm
              unfold lfB at e ⊢
              rw [Bool.and_eq_false_iff, decide_eq_false_iff_not, decide_eq_false_iff_not] at e ⊢
              rcases e with y | y
              · exact Or.inl y
              · exact Or.inr (fun y2 => y (by omega))
            | true =>
              have hle := hb4 m hm e
              unfold lfB at e ⊢
              rw [Bool.and_eq_true, decide_eq_true_eq, decide_eq_true_eq] at e
              rw [Bool.true_and, decide_eq_true e.1, Bool.true_and]
              by_cases y : Punk P b + Pq P ≤ Punk P m
              · rw [decide_eq_true y, decide_eq_true (show Pq P ≤ (Punk P b - Punk P m) + (Punk P m - Punk P b) by omega), decide_eq_true (show b ≠ m from fun z => by subst z; omega)]
                rfl
              · rw [decide_eq_false y, decide_eq_false (show ¬ Pq P ≤ (Punk P b - Punk P m) + (Punk P m - Punk P b) by omega), Bool.and_false]
          rw [ea, nI_1]
          exact ih _ _ (by omega) (by omega) (by omega)
        · intro k hk hnx a ha hab
          refine h91 _ _ (it_le (a := 8) (by omega) (by omega) (fun y => absurd y (by omega)) (fun _ => ?_))
          rw [hb1]
          refine p_quarrels hP hT hb2 hk ?_
          intro J120 h120
          cases e : (decide (b ≠ k) && decide (Pq P ≤ (Punk P b - Punk P k) + (Punk P k - Punk P b))) with
          | false =>
            refine i0 (h120 _ ?_)
            intro x11 e11
            rw [clr_i k hk a ha] at e11
            rw [e11, nI_1]
            refine hnx _ (clr_lt a k ha) (fun m hm => ?_)
            rw [clr_t k hk a ha m hm, hab m hm]
            by_cases z : m = k
            · subst z
              rw [e, decide_eq_false (show ¬ m + 1 ≤ m by omega)]
              simp
            · rw [decide_eq_true z, Bool.and_true, decide_eq_decide.mpr (show k ≤ m ↔ k + 1 ≤ m by omega)]
          | true =>
            refine i1 (h120 _ ?_)
            intro x11 e11
            rw [and_m1] at e11
            rw [e11, nI_1]
            refine hnx a ha (fun m hm => ?_)
            rw [hab m hm]
            by_cases z : m = k
            · subst z
              rw [e]
              simp
            · rw [decide_eq_decide.mpr (show k ≤ m ↔ k + 1 ≤ m by omega)]
    · intro k hk hnx v5 hv5
      refine h28 _ _ (it_le (a := 8) (by omega) (by omega) (fun y => absurd y (by omega)) (fun _ => ?_))
      intro J80 h80 J78 h78
      rw [bit k hk]
      cases e : lfB P s T k with
      | false =>
        rw [if_neg (show ¬ nI (bI false) = 1 by decide)]
        refine h78 (h80 _ ?_)
        rw [nI_1]
        refine hnx _ ?_
        rcases hv5 with ⟨hv, hno⟩ | ⟨b, hb1, hb2, hb3, hb4⟩
        · refine Or.inl ⟨hv, fun m hm => ?_⟩
          rcases Nat.lt_or_ge m k with y | y
          · exact hno m y
          · rw [show m = k by omega]; exact e
        · refine Or.inr ⟨b, hb1, hb2, hb3, fun m hm hl => ?_⟩
          rcases Nat.lt_or_ge m k with y | y
          · exact hb4 m y hl
          · rw [show m = k by omega, e] at hl; cases hl
      | true =>
        rw [if_pos (show nI (bI true) = 1 from rfl)]
        intro J73 h73
        have take : (∀ m, m < k → lfB P s T m = true → Punk P k ≤ Punk P m) → J73 := by
          intro hle
          refine h73 (h80 _ ?_)
          rw [nI_1]
          refine hnx _ (Or.inr ⟨k, rfl, hk, e, fun m hm hl => ?_⟩)
          rcases Nat.lt_or_ge m k with y | y
          · exact hle m y hl
          · rw [show m = k by omega]; exact Nat.le_refl _
        rcases hv5 with ⟨hv, hno⟩ | ⟨b, hb1, hb2, hb3, hb4⟩
        · rw [hv, if_pos (show (-1 : Int32) < 0 by decide)]
          exact take (fun m hm hl => by rw [hno m hm] at hl; cases hl)
        · rw [hb1, if_neg (nI_pos (by omega)), a21, a21, nI_clamp (by omega), nI_clamp (by omega), t21 b hb2, t21 k hk]
          refine ⟨vl _ _ (by omega) (by omega), vl _ _ (by omega) (by omega), ?_⟩
          have h1 := hu b
          have h2 := hu k
          refine it_le (by omega) (by omega) (fun y => ?_) (fun y => take (fun m hm hl => ?_))
          · refine h78 (h80 _ ?_)
            rw [nI_1]
            refine hnx _ (Or.inr ⟨b, hb1, hb2, hb3, fun m hm hl => ?_⟩)
            rcases Nat.lt_or_ge m k with z | z
            · exact hb4 m z hl
            · rw [show m = k by omega]; exact y
          · have := hb4 m hm hl; omega
theorem r_rooms {P : aP} {told s : Nat → Int32} {w : aW} {st : aT} {d l x : Int32} {K : Int32 → Prop} (hP : PV1 P) (hT : rT P told) (h : rS s w st d l) (hS : SV P w st) (hK : K (aRooms P st x)) : wpX9_rooms told s x K := by
  have h6 := hP.1.1
  have h1 := hP.2.1
  unfold wpX9_rooms
  unfold aRooms at hK
  refine p_isPerson9 hP hT (fun p e => i1 ?_) (fun e => i0 (by rw [e] at hK; exact hK))
  have hx := rx_some e
  rw [e] at hK
  rw [hx.2.2]
  refine p_lodgers9 (by omega) (hS.2.1 p) h ?_
  intro J hJ
  have e0 : lodB (st p) = bsum (lfB P (st p) 0) 8 := by
    unfold lodB
    refine bsum_congr (fun m hm => ?_)
    unfold lfB
    rw [decide_eq_true (Nat.zero_le _), Bool.and_true]
  rw [e0]
  exact r_roomsA hP.1 hT (hS.2.2.1 p) hJ hK _ 0 0 rfl (by rw [Nat.zero_add]; rfl) (by omega)
