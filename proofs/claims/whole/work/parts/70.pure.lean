/-! pure: said of the reference -/
def tv (v : Int32) (p : Prop) : Prop := (p → v = 1) ∧ (¬ p → v = 0)
theorem p_isSo {P : aP} {told s held : Nat → Int32} {w : aW} {st : aT} {d l wo many : Int32} {seen ds : Nat → Int32} {c : Nat} {g : Nat → Nat × Nat × Nat × Nat} {K : Int32 → Int32 → (Nat → Int32) → Prop} (hP : PV1 P) (hT : rT P told) (hS : SV0 P w st) (h : rS s w st d l) (hG : rG9 many seen ds c g) (hV : GV P c g)
    (h1 : soP P w st c g → ∀ wo f, (∀ k, k < 86 → f k = held k) → K 1 wo f) (h0 : ¬ soP P w st c g → ∀ wo f, (∀ k, k < 86 → f k = held k) → K 0 wo f) : wpX9_isSo many wo told s seen ds held K := by
  have h6 := hP.1.1
  have h8 := hP.1.2.1
  obtain ⟨g1, g2, g3⟩ := hG
  unfold wpX9_isSo
  intro J hJ
  suffices key : ∀ v wo2 s2, tv v (∀ m, m < c → (g m).2.2.1 ≤ 0 → daysT P w st (g m).2.2.1 (g m).1 (g m).2.1 = (g m).2.2.2) → rS s2 w (daysT P w st 0) (d + nI 0) (l + nI (lostN P w st 0)) → J v (nI (0 + 1)) wo2 s2 by
    refine key 1 wo s ⟨fun _ => rfl, fun q => absurd (fun m hm hle => ?_) q⟩ ?_
    · have := (hV m hm).2.2.1.1; omega
    · rw [daysT_0, lostN_0, show nI 0 = (0 : Int32) from rfl, Int32.add_zero, Int32.add_zero]
      exact h
  refine kloop (J := fun k => ∀ v wo2 s2, tv v (∀ m, m < c → (g m).2.2.1 ≤ k → daysT P w st (g m).2.2.1 (g m).1 (g m).2.1 = (g m).2.2.2) → rS s2 w (daysT P w st k) (d + nI k) (l + nI (lostN P w st k)) → J v (nI (k + 1)) wo2 s2) (N := 20) ?_ ?_
  · intro v wo2 s2 hv _
    refine hJ _ _ _ _ (it_le (a := 21) (by omega) (by omega) (fun _ => ?_) (fun q => absurd q (by omega)))
    refine p_lets ?_
    intro f hf
    by_cases q : soP P w st c g
    · have e := hv.1 (fun m hm _ => q m hm)
      rw [e]
      exact ⟨Or.inr rfl, h1 q _ _ hf⟩
    · have e := hv.2 (fun z => q (fun m hm => z m hm (hV m hm).2.2.1.2))
      rw [e]
      exact ⟨Or.inl rfl, h0 q _ _ hf⟩
  · intro k hk hnx v wo2 s2 hv hs2
    refine hJ _ _ _ _ (it_le (a := 21) (by omega) (by omega) (fun q => absurd q (by omega)) (fun _ => ?_))
    refine p_passes0 hP hT (hS.days k) hs2 ?_
    intro s3 hs3
    rw [← daysT_1] at hs3
    have hs3' : rS s3 w (daysT P w st (k + 1)) (d + nI (k + 1)) (l + nI (lostN P w st (k + 1))) := by
      rw [lostN_1, nI_succ, ← nI_add, ← Int32.add_assoc, ← Int32.add_assoc]
      exact hs3
    intro J16 h16
    suffices key : ∀ v2, tv v2 ((∀ m, m < c → (g m).2.2.1 ≤ k → daysT P w st (g m).2.2.1 (g m).1 (g m).2.1 = (g m).2.2.2) ∧ ∀ m, m < 0 → (g m).2.2.1 = k + 1 → daysT P w st (g m).2.2.1 (g m).1 (g m).2.1 = (g m).2.2.2) → J16 v2 (nI 0) by
      exact key v ⟨fun q => hv.1 q.1, fun q => hv.2 (fun z => q ⟨z, fun m hm => absurd hm (by omega)⟩)⟩
    refine kloop (J := fun b => ∀ v2, tv v2 ((∀ m, m < c → (g m).2.2.1 ≤ k → daysT P w st (g m).2.2.1 (g m).1 (g m).2.1 = (g m).2.2.2) ∧ ∀ m, m < b → (g m).2.2.1 = k + 1 → daysT P w st (g m).2.2.1 (g m).1 (g m).2.1 = (g m).2.2.2) → J16 v2 (nI b)) (N := c) ?_ ?_
    · intro v2 hv2
      refine h16 _ _ ?_
      rw [g1]
      refine it_le (by omega) (by omega) (fun _ => ?_) (fun q => absurd q (by omega))
      rw [nI_1]
      refine hnx _ _ _ ⟨fun q => hv2.1 ⟨fun m hm hle => q m hm (by omega), fun m hm he => q m hm (by omega)⟩, fun q => hv2.2 (fun z => q (fun m hm hle => ?_))⟩ hs3'
      rcases Nat.lt_or_ge k (g m).2.2.1 with y | y
      · exact z.2 m hm (by omega)
      · exact z.1 m hm y
    · intro b hb hnb v2 hv2
      refine h16 _ _ ?_
      rw [g1]
      refine it_le (by omega) (by omega) (fun q => absurd q (by omega)) (fun _ => ?_)
      intro J69 h69 J68 h68
      obtain ⟨y1, y2⟩ := g3 b hb
      obtain ⟨x1, x2, x3, x4⟩ := hV b hb
      have no : ¬ ((∀ m, m < c → (g m).2.2.1 ≤ k → daysT P w st (g m).2.2.1 (g m).1 (g m).2.1 = (g m).2.2.2) ∧ ∀ m, m < b + 1 → (g m).2.2.1 = k + 1 → daysT P w st (g m).2.2.1 (g m).1 (g m).2.1 = (g m).2.2.2) → J68 := by
        intro q
        refine h68 (h69 0 ?_)
        rw [nI_1]
        exact hnb 0 ⟨fun z => absurd z q, fun _ => rfl⟩
      have yes : ((∀ m, m < c → (g m).2.2.1 ≤ k → daysT P w st (g m).2.2.1 (g m).1 (g m).2.1 = (g m).2.2.2) ∧ ∀ m, m < b + 1 → (g m).2.2.1 = k + 1 → daysT P w st (g m).2.2.1 (g m).1 (g m).2.1 = (g m).2.2.2) → J69 1 := by
        intro q
        refine h69 1 ?_
        rw [nI_1]
        exact hnb 1 ⟨fun _ => rfl, fun z => absurd q z⟩
      by_cases q : (∀ m, m < c → (g m).2.2.1 ≤ k → daysT P w st (g m).2.2.1 (g m).1 (g m).2.1 = (g m).2.2.2) ∧ ∀ m, m < b → (g m).2.2.1 = k + 1 → daysT P w st (g m).2.2.1 (g m).1 (g m).2.1 = (g m).2.2.2
      · rw [hv2.1 q]
        rw [if_neg (show ¬ (1 : Int32) = 0 by decide)]
        refine ⟨vl _ _ (by omega) (by omega), ?_⟩
        intro J64 h64
        rw [nI_clamp (by omega), y1, y2]
        have step : ((g b).2.2.1 = k + 1 → daysT P w st (g b).2.2.1 (g b).1 (g b).2.1 = (g b).2.2.2) → J64 := by
          intro z
          refine h64 (yes ⟨q.1, fun m hm he => ?_⟩)
          rcases Nat.lt_or_ge m b with y | y
          · exact q.2 m y he
          · rw [show m = b by omega] at he ⊢; exact z he
        refine it_eq (by omega) (by omega) (fun z => ?_) (fun z => step (fun z2 => absurd z2 z))
        refine ⟨vl _ _ (by omega) (by omega), ?_⟩
        rw [show (10 : Int32) = nI 10 from rfl, pk_div (by omega) (by omega) (by omega), pk_mul, show (10 * (8 * (g b).1 + (g b).2.1) + (g b).2.2.2) / 10 = 8 * (g b).1 + (g b).2.1 by omega, pk_sub (by omega), nI_clamp (by omega), hs3'.1 _ (by omega) _ (by omega)]
        refine ⟨vl _ _ (by omega) (by omega), vl _ _ (by omega) (by omega), ?_⟩
        have hb9 := (hS.days (k + 1)).2.1 (g b).1 (g b).2.1
        rw [← z]
        rw [← z] at hb9
        refine it_eq (by omega) (by omega) (fun y => step (fun _ => by omega)) (fun y => no (fun u => y ?_))
        have := u.2 b (by omega) z
        omega
      · rw [hv2.2 q, if_pos rfl]
        exact no (fun z => q ⟨z.1, fun m hm => z.2 m (by omega)⟩)
theorem nx_or (a b : Nat) : nI a ||| nI b = nI (a ||| b) := by
  apply Int32.toBitVec_inj.1
  show BitVec.ofNat 32 a ||| BitVec.ofNat 32 b = BitVec.ofNat 32 (a ||| b)
  apply BitVec.eq_of_getLsbD_eq
  intro i hi
  simp [hi]
theorem rS.set {s : Nat → Int32} {w : aW} {st : aT} {d l : Int32} (h : rS s w st d l) {i j n : Nat} (hi : i < 6) (hj : j < 6) (hn : n < 8) : rS (upd s (48 + 6 * i + j) (s (48 + 6 * i + j) ||| (1 <<< (nI n &&& 31)))) (wu w i j n) st d l := by
  refine ⟨fun p hp m hm => ?_, fun a ha b hb => ?_, ?_, ?_⟩
  · rw [pk_un (by omega)]; exact h.1 p hp m hm
  · by_cases e : a = i ∧ b = j
    · obtain ⟨e1, e2⟩ := e
      subst e1; subst e2
      rw [pk_us, h.2.1 a ha b hb, sh1 n hn, nx_or]
      congr 1
      refine bsum_eq (Nat.or_lt_two_pow (wm_lt w a b) (Nat.pow_lt_pow_right (by decide) hn)) (fun c hc => ?_)
      rw [Nat.testBit_or, Nat.testBit_two_pow, wm_tb w a b hc]
      unfold wu
      by_cases z : c = n
      · subst z; simp
      · rw [if_neg (fun y => z y.2.2)]
        simp [show ¬ n = c from fun y => z y.symm]
    · have e2 : wm (wu w i j n) a b = wm w a b := by
        unfold wm
        refine bsum_congr (fun c _ => ?_)
        unfold wu
        rw [if_neg (fun z => e ⟨z.1, z.2.1⟩)]
      rw [pk_un (by omega), e2]; exact h.2.1 a ha b hb
  · rw [pk_un (by omega)]; exact h.2.2.1
  · rw [pk_un (by omega)]; exact h.2.2.2
theorem r_said {P : aP} {told s held : Nat → Int32} {w : aW} {st : aT} {d l wo many : Int32} {seen ds : Nat → Int32} {c : Nat} {g : Nat → Nat × Nat × Nat × Nat} {x y : Int32} {K : Int32 → Int32 → (Nat → Int32) → (Nat → Int32) → Prop} (hP : PV1 P) (hT : rT P told) (h : rS s w st d l) (hS : SV P w st) (hG : rG9 many seen ds c g) (hV : GV P c g)
    (hK : ∀ wo s' held', rS s' w st d l → K (aSaid P w st c g x y) wo s' held') : wpX9_said many wo told s seen ds held x y K := by
  have h6 := hP.1.1
  have h8 := hP.1.2.1
  unfold wpX9_said
  unfold aSaid at hK
  refine p_areTwo hP hT (fun v e => i1 ?_) (fun e => i0 (by rw [e] at hK; exact hK _ _ _ h))
  have hq := iPP_s hP e
  rw [e] at hK
  dsimp only at hK
  rw [hq.2.2.2.1, hq.2.2.2.2]
  refine p_holds ?_
  intro held2 hh2
  have back : ∀ f, (∀ k, k < 86 → f k = held2 k) → rS f w st d l := fun f hf => rS_copy h (fun k hk => (hf k hk).trans (hh2 k hk))
  refine p_isSo hP hT hS.z h hG hV (fun hso wo2 f hf => ?_) (fun hso wo2 f hf => ?_)
  all_goals
    have hs2 := back f hf
    have ini : saidTo P w st v.1 v.2 c g 0 = if soP P w st c g then 256 else 0 := rfl
    first
    | rw [if_pos hso] at ini
    | rw [if_neg hso] at ini
    intro J29 h29
    first
    | refine i1 ?_
    | refine i0 ?_
    refine h29 _ ?_
    intro J hJ
    suffices key : J (saidTo P w st v.1 v.2 c g 0) (nI 0) wo2 f by
      rw [ini] at key
      exact key
    refine (kloop (J := fun k => ∀ wo2 s2, rS s2 w st d l → J (saidTo P w st v.1 v.2 c g k) (nI k) wo2 s2) (N := Pnn P) ?_ ?_) wo2 f hs2
    · intro wo3 s3 hs3
      refine hJ _ _ _ _ ?_
      rw [k1, hT.2.1]
      exact ⟨vl 1 _ (by omega) (by omega), it_le (by omega) (by omega) (fun _ => hK _ _ _ hs3) (fun q => absurd q (by omega))⟩
    · intro k hk hnx wo3 s3 hs3
      refine hJ _ _ _ _ ?_
      rw [k1, hT.2.1]
      refine ⟨vl 1 _ (by omega) (by omega), it_le (by omega) (by omega) (fun q => absurd q (by omega)) (fun _ => ?_)⟩
      rw [m6, a48, nI_add, nI_clamp (by omega)]
      refine ⟨vl _ _ (by omega) (by omega), vl _ _ (by omega) (by omega), ?_⟩
      have es : saidTo P w st v.1 v.2 c g (k + 1) = if soP P (wu w v.1 v.2 k) st c g then saidTo P w st v.1 v.2 c g k ||| (1 <<< (nI k &&& 31)) else saidTo P w st v.1 v.2 c g k := rfl
      refine p_isSo hP hT (SV0_wu hS.z hq.1 hq.2.1 hq.2.2.1 hk) (hs3.set (by omega) (by omega) (by omega)) hG hV (fun hs4 wo4 f4 hf4 => ?_) (fun hs4 wo4 f4 hf4 => ?_)
      · intro J81 h81
        refine i1 (h81 _ ?_)
        intro x15 e15
        rw [nI_1, e15]
        rw [if_pos hs4] at es
        rw [← es]
        exact hnx _ _ (back f4 hf4)
      · intro J81 h81
        refine i0 (h81 _ ?_)
        intro x15 e15
        rw [nI_1, e15, Int32.or_zero]
        rw [if_neg hs4] at es
        rw [← es]
        exact hnx _ _ (back f4 hf4)
