/-! pure: game, both -/
def iG (P : aP) (x y z u : Int32) : Option (Nat × Nat × Nat × Nat) := match iPP P x y, rx 1 10 z, rx 0 1 u with
  | some q, some t, some k => some (q.1, q.2, t, k)
  | _, _, _ => none
def aGame (P : aP) (w : aW) (st : aT) (x y z u : Int32) : Int32 := match iG P x y z u with
  | some q => if q.2.2.2 = 0 then nI (gN (Pnn P) (gA P w st q.1 q.2.1 q.2.2.1) * gN (Pnn P) (gA P w st q.2.1 q.1 q.2.2.1)) else nI (10 * shc (gF (Pnn P) (gA P w st q.1 q.2.1 q.2.2.1)) + shc (gF (Pnn P) (gA P w st q.2.1 q.1 q.2.2.1)))
  | none => -1
theorem c_game {P : aP} {w : aW} {st : aT} {np nn q f1 hk hb hf : Int32} {hw : Int64} {hs kinds beds foods pu pe f : Nat → Int32} {rows : Nat → Int64} {x y z u : Int32} {K : Int32 → Int32 → Int32 → Int32 → Int32 → Int64 → (Nat → Int32) → Prop} (hP : PV1 P) (hR : rPt P np nn q kinds beds foods pu pe) (hwr : rW rows w) (h : rD f st) (hS : SV P w st)
    (hK : ∀ o a b c e g, K (aGame P w st x y z u) o a b c e g) : wpX8_game f1 np nn q kinds beds foods pu pe rows f hk hb hf hw hs x y z u K := by
  have h6 := hP.1.1
  unfold wpX8_game
  unfold aGame iG at hK
  rw [hR.1]
  refine p_isPair hP (fun v e1 => i1 ?_) (fun e1 => i0 (by rw [e1] at hK; exact hK _ _ _ _ _ _))
  refine p_within (lo := 1) (hi := 10) (by omega) (by omega) (fun t e2 => i1 ?_) (fun e2 => i0 (by rw [e1, e2] at hK; exact hK _ _ _ _ _ _))
  refine p_within (lo := 0) (hi := 1) (by omega) (by omega) (fun k e3 => i1 ?_) (fun e3 => i0 (by rw [e1, e2, e3] at hK; exact hK _ _ _ _ _ _))
  have g1 := iPP_s hP e1
  have g2 := rx_some e2
  have g3 := rx_some e3
  rw [e1, e2, e3] at hK
  dsimp only at hK
  rw [g1.2.2.2.1, g1.2.2.2.2, g2.2.2, g3.2.2]
  refine p_findWorst hP hR hwr h hS.2.1 hS.2.2.1 g1.1 g1.2.1 (by omega) ?_
  intro a1 a2 a3 a4 a5
  refine p_findWorst hP hR hwr h hS.2.1 hS.2.2.1 g1.2.1 g1.1 (by omega) ?_
  intro b1 b2 b3 b4 b5 x18 e18
  rw [pk_mul] at e18
  refine it_eq (b := 0) (by omega) (by omega) (fun y => ?_) (fun y => ?_)
  · rw [if_pos y] at hK
    rw [e18]
    exact hK _ _ _ _ _ _
  · rw [if_neg y] at hK
    rw [m10, nI_add]
    exact hK _ _ _ _ _ _
theorem rS.ch {s : Nat → Int32} {w : aW} {st : aT} {d l : Int32} (h : rS s w st d l) {i j c : Nat} (hi : i < 6) (hj : j < 6) (hc : c < 9) {v : Int32} (hv : v = if c = 8 then (0 : Int32) else 1 <<< (nI c &&& 31)) : rS (upd s (48 + 6 * i + j) (s (48 + 6 * i + j) ||| v)) (wch w i j c) st d l := by
  unfold wch
  by_cases e : c = 8
  · rw [if_pos e] at hv ⊢
    rw [hv, or_0]
    refine rS_copy h (fun k hk => ?_)
    by_cases z : k = 48 + 6 * i + j
    · rw [z]; exact pk_us
    · exact pk_un z
  · rw [if_neg e] at hv ⊢
    rw [hv]
    exact h.set hi hj (by omega)
theorem wch_o (w : aW) {i j c a b n : Nat} (h : b ≠ j) : wch w i j c a b n = w a b n := by
  unfold wch
  split
  · rfl
  · unfold wu; rw [if_neg (fun z => h z.2.1)]
theorem wch_f {P : aP} {w : aW} (h : ∀ n i j, Pnp P ≤ i → w i j n = false) {a b c : Nat} (ha : a < Pnp P) : ∀ n i j, Pnp P ≤ i → wch w a b c i j n = false := by
  intro n i j hi
  unfold wch
  split
  · exact h n i j hi
  · unfold wu; rw [if_neg (fun z => by omega)]; exact h n i j hi
theorem cw_row {w w' : aW} {j : Nat} (h : ∀ i n, w i j n = w' i j n) : cw w j = cw w' j := by
  funext n
  unfold cw
  exact nsum_congr (fun i _ => by rw [h i n])
theorem Dp_row {P : aP} {w w' : aW} {j : Nat} (h : ∀ i n, w i j n = w' i j n) : Dp P w j = Dp P w' j := by
  unfold Dp
  rw [cw_row h]
theorem wch_row2 (w : aW) {i j a b : Nat} (h : i ≠ j) : ∀ x n, wch (wch w i j a) j i b x i n = wch w j i b x i n := by
  intro x n
  unfold wch
  by_cases e : b = 8
  · rw [if_pos e, if_pos e]
    split
    · rfl
    · unfold wu; rw [if_neg (fun z => h z.2.1)]
  · rw [if_neg e, if_neg e]
    unfold wu
    split
    · rfl
    · split
      · rfl
      · show (if x = i ∧ i = j ∧ n = a then true else w x i n) = w x i n
        rw [if_neg (fun z => h z.2.1)]
theorem p_plays {P : aP} {told s held worth : Nat → Int32} {w : aW} {st : aT} {d l wo : Int32} {i j t : Nat} {K : Int32 → (Nat → Int32) → (Nat → Int32) → Prop} (hP : PV1 P) (hT : rT P told) (hS : SV P w st) (hi : i < Pnp P) (hj : j < Pnp P) (hij : i ≠ j) (ht : t < 100) (h : rS s w st d l) (hh : rS held w st d l)
    (hK : ∀ wo f g, rS f w st d l → (∀ a, a < 9 → ∀ b, b < 9 → g (9 * a + b) = nI (gA P w st i j t a) - nI (gA P w st j i t b)) → K wo f g) : wpX9_plays wo told s held worth (nI i) (nI j) (nI t) K := by
  have h6 := hP.1.1
  unfold wpX9_plays
  intro J3 h3
  suffices key : ∀ wo s2 g, rS s2 w st d l → (∀ k, k < 9 * 0 → g k = nI (gA P w st i j t (k / 9)) - nI (gA P w st j i t (k % 9))) → J3 (nI 0) wo s2 g from key _ _ _ h (fun k hk => absurd hk (by omega))
  refine kloop (J := fun a => ∀ wo s2 g, rS s2 w st d l → (∀ k, k < 9 * a → g k = nI (gA P w st i j t (k / 9)) - nI (gA P w st j i t (k % 9))) → J3 (nI a) wo s2 g) (N := 9) ?_ ?_
  · intro wo2 s2 g hs2 hg
    refine h3 _ _ _ _ (it_le (a := 9) (b := 9) (by omega) (by omega) (fun _ => hK _ _ _ hs2 (fun a ha b hb => ?_)) (fun y => absurd y (by omega)))
    have := hg (9 * a + b) (by omega)
    rw [show (9 * a + b) / 9 = a by omega, show (9 * a + b) % 9 = b by omega] at this
    exact this
  · intro a ha hna wo2 s2 g hs2 hg
    refine h3 _ _ _ _ (it_le (a := 9) (by omega) (by omega) (fun y => absurd y (by omega)) (fun _ => ?_))
    intro J13 h13
    suffices key : ∀ wo s2 g, rS s2 w st d l → (∀ k, k < 9 * a + 0 → g k = nI (gA P w st i j t (k / 9)) - nI (gA P w st j i t (k % 9))) → J13 (nI 0) wo s2 g from key _ _ _ hs2 hg
    refine kloop (J := fun b => ∀ wo s2 g, rS s2 w st d l → (∀ k, k < 9 * a + b → g k = nI (gA P w st i j t (k / 9)) - nI (gA P w st j i t (k % 9))) → J13 (nI b) wo s2 g) (N := 9) ?_ ?_
    · intro wo3 s3 g3 hs3 hg3
      refine h13 _ _ _ _ (it_le (a := 9) (b := 9) (by omega) (by omega) (fun _ => ?_) (fun y => absurd y (by omega)))
      rw [nI_1]
      exact hna _ _ _ hs3 (fun k hk => hg3 k (by omega))
    · intro b hb hnb wo3 s3 g3 hs3 hg3
      refine h13 _ _ _ _ (it_le (a := 9) (by omega) (by omega) (fun y => absurd y (by omega)) (fun _ => ?_))
      rw [m6, a48, nI_add, m6, a48, nI_add, nI_clamp (show 48 + 6 * i + j < 2 ^ 31 by omega), nI_clamp (show 48 + 6 * j + i < 2 ^ 31 by omega)]
      refine ⟨vl _ _ (by omega) (by omega), ?_⟩
      intro J50 h50
      have go : ∀ v9 : Int32, v9 = (if a = 8 then (0 : Int32) else 1 <<< (nI a &&& 31)) → J50 v9 := by
        intro v9 e9
        refine h50 _ ⟨vl _ _ (by omega) (by omega), vl _ _ (by omega) (by omega), ?_⟩
        intro J82 h82
        have go2 : ∀ v10 : Int32, v10 = (if b = 8 then (0 : Int32) else 1 <<< (nI b &&& 31)) → J82 v10 := by
          intro v10 e10
          refine h82 _ ⟨vl _ _ (by omega) (by omega), ?_⟩
          have r1 := hs3.ch (i := i) (j := j) (c := a) (by omega) (by omega) ha e9
          have r2 := r1.ch (i := j) (j := i) (c := b) (by omega) (by omega) hb e10
          have f0 : ∀ n i j, Pnp P ≤ i → w i j n = false := fun n i j hh => hS.1.f hh
          have f2 := wch_f (wch_f f0 (a := i) (b := j) (c := a) hi) (a := j) (b := i) (c := b) hj
          have dj : Dp P (wch (wch w i j a) j i b) j = Dp P (wch w i j a) j := Dp_row (fun x n => wch_o _ (fun z => hij z.symm))
          have di : Dp P (wch (wch w i j a) j i b) i = Dp P (wch w j i b) i := Dp_row (wch_row2 w hij)
          generalize wch (wch w i j a) j i b = w2 at r2 f2 dj di
          intro J87 h87
          suffices key : ∀ wo4 s4 l4, rS s4 w2 (uT (uT st i (itS (Dp P w2 i) (st i) 0)) j (itS (Dp P w2 j) (st j) 0)) d l4 → J87 (nI 0) wo4 s4 by
            refine key wo3 _ l ?_
            rw [show itS (Dp P w2 i) (st i) 0 = st i from rfl, show itS (Dp P w2 j) (st j) 0 = st j from rfl, uT_id, uT_id]
            exact r2
          refine kloop (J := fun k => ∀ wo4 s4 l4, rS s4 w2 (uT (uT st i (itS (Dp P w2 i) (st i) k)) j (itS (Dp P w2 j) (st j) k)) d l4 → J87 (nI k) wo4 s4) (N := t) ?_ ?_
          · intro wo4 s4 l4 hs4
            have ei : uT (uT st i (itS (Dp P w2 i) (st i) t)) j (itS (Dp P w2 j) (st j) t) i = itS (Dp P w2 i) (st i) t := by rw [uT_n _ _ hij, uT_s]
            have ej : uT (uT st i (itS (Dp P w2 i) (st i) t)) j (itS (Dp P w2 j) (st j) t) j = itS (Dp P w2 j) (st j) t := uT_s _ _ _
            refine h87 _ _ _ (it_le (by omega) (by omega) (fun _ => ?_) (fun y => absurd y (by omega)))
            refine p_sumOf (c := 21) (row := Punk P) (by omega) (fun n hn => hT.2.2.2.2.2.2.1 n hn) (by omega) (by rw [ej]; exact itS_V Dp_V (hS.2.1 j) t) hs4 ?_
            refine p_sumOf (c := 21) (row := Punk P) (by omega) (fun n hn => hT.2.2.2.2.2.2.1 n hn) (by omega) (by rw [ei]; exact itS_V Dp_V (hS.2.1 i) t) hs4 ?_
            rw [ei, ej, di, dj, show (9 : Int32) = nI 9 from rfl, pk_mul, nI_add, nI_clamp (by omega)]
            refine ⟨vl _ _ (by omega) (by omega), ?_⟩
            refine p_lets ?_
            intro f5 hf5
            rw [nI_1]
            refine hnb _ _ _ (rS_copy hh hf5) (fun k hk => ?_)
            by_cases z : k = 9 * a + b
            · rw [z, pk_us, show (9 * a + b) / 9 = a by omega, show (9 * a + b) % 9 = b by omega]
              rfl
            · rw [pk_un z]
              exact hg3 k (by omega)
          · intro k hk hnk wo4 s4 l4 hs4
            have ei : uT (uT st i (itS (Dp P w2 i) (st i) k)) j (itS (Dp P w2 j) (st j) k) i = itS (Dp P w2 i) (st i) k := by rw [uT_n _ _ hij, uT_s]
            refine h87 _ _ _ (it_le (by omega) (by omega) (fun y => absurd y (by omega)) (fun _ => ?_))
            refine p_goesBy hP.1 hP.2.2 hT (by omega) (fun n x hx => f2 n x _ hx) (by rw [ei]; exact itS_V Dp_V (hS.2.1 i) k) (by rw [ei]; exact itS_Z Dp_Z (hS.2.2.1 i) k) (by rw [ei]; intro h4 m; rw [itS_4 h4]; exact hS.2.2.2.2 i h4 m) hs4 ?_
            intro s5 hs5
            rw [ei] at hs5
            have ej : ∀ v, uT (uT (uT st i (itS (Dp P w2 i) (st i) k)) j (itS (Dp P w2 j) (st j) k)) i v j = itS (Dp P w2 j) (st j) k := by
              intro v
              rw [uT_n _ _ (fun z => hij z.symm), uT_s]
            refine p_goesBy hP.1 hP.2.2 hT (by omega) (fun n x hx => f2 n x _ hx) (by rw [ej]; exact itS_V Dp_V (hS.2.1 j) k) (by rw [ej]; exact itS_Z Dp_Z (hS.2.2.1 j) k) (by rw [ej]; intro h4 m; rw [itS_4 h4]; exact hS.2.2.2.2 j h4 m) hs5 ?_
            intro s6 hs6
            rw [ej] at hs6
            rw [nI_1]
            have e : uT (uT (uT (uT st i (itS (Dp P w2 i) (st i) k)) j (itS (Dp P w2 j) (st j) k)) i (itS (Dp P w2 i) (st i) (k + 1))) j (itS (Dp P w2 j) (st j) (k + 1)) = uT (uT st i (itS (Dp P w2 i) (st i) (k + 1))) j (itS (Dp P w2 j) (st j) (k + 1)) := by
              funext c
              unfold uT
              by_cases z : c = j
              · rw [if_pos z, if_pos z]
              · by_cases z2 : c = i
                · simp only [if_neg z, if_pos z2]
                · simp only [if_neg z, if_neg z2]
            change rS s6 w2 (uT (uT (uT (uT st i (itS (Dp P w2 i) (st i) k)) j (itS (Dp P w2 j) (st j) k)) i (itS (Dp P w2 i) (st i) (k + 1))) j (itS (Dp P w2 j) (st j) (k + 1))) d _ at hs6
            rw [e] at hs6
            exact hnk _ s6 _ hs6
        refine it_le (a := 8) (by omega) (by omega) (fun y => go2 _ ?_) (fun y => go2 _ ?_)
        · rw [if_pos (by omega)]
        · rw [if_neg (by omega)]
      refine it_le (a := 8) (by omega) (by omega) (fun y => go _ ?_) (fun y => go _ ?_)
      · rw [if_pos (by omega)]
      · rw [if_neg (by omega)]
