/-! pure: the start of the reference -/
theorem p_lays {P : aP} {w : aW} {told d b s : Nat → Int32} {K : Int32 → Int32 → Int32 → (Nat → Int32) → (Nat → Int32) → Prop} (hT : rT P d) (hB : rB b w) (hK : ∀ tl s', rT P tl → rS s' w (fun _ _ => 0) 0 0 → K 0 0 0 tl s') : wpX9_lays told d b s K := by
  unfold wpX9_lays
  intro J2 h2
  suffices key : ∀ g, (∀ j, j < 0 → g j = d j) → J2 (nI 0) g from key told (fun j hj => absurd hj (by omega))
  refine kloop (J := fun k => ∀ g, (∀ j, j < k → g j = d j) → J2 (nI k) g) (N := 37) ?_ ?_
  · intro g hg
    refine h2 _ _ ?_
    rw [if_pos (show (37 : Int32) ≤ nI 37 by decide)]
    have hT2 : rT P g := by
      obtain ⟨u0, u1, u2, u3, u9, u15, u21, u29⟩ := hT
      refine ⟨?_, ?_, ?_, fun p hp => ?_, fun p hp => ?_, fun p hp => ?_, fun n hn => ?_, fun n hn => ?_⟩
      · rw [hg _ (by omega)]; exact u0
      · rw [hg _ (by omega)]; exact u1
      · rw [hg _ (by omega)]; exact u2
      · rw [hg _ (by omega)]; exact u3 p hp
      · rw [hg _ (by omega)]; exact u9 p hp
      · rw [hg _ (by omega)]; exact u15 p hp
      · rw [hg _ (by omega)]; exact u21 n hn
      · rw [hg _ (by omega)]; exact u29 n hn
    intro J28 h28
    suffices key : ∀ f, (∀ j, j < 0 → f j = if 48 ≤ j ∧ j ≤ 83 then b (j - 48) else 0) → J28 (nI 0) f from key s (fun j hj => absurd hj (by omega))
    refine kloop (J := fun k => ∀ f, (∀ j, j < k → f j = if 48 ≤ j ∧ j ≤ 83 then b (j - 48) else 0) → J28 (nI k) f) (N := 86) ?_ ?_
    · intro f hf
      refine h28 _ _ ?_
      rw [if_pos (show (86 : Int32) ≤ nI 86 by decide)]
      refine hK _ _ hT2 ⟨fun p hp n hn => ?_, fun i hi j hj => ?_, ?_, ?_⟩
      · rw [hf _ (by omega), if_neg (by omega)]; rfl
      · rw [hf _ (by omega), if_pos (by omega), show 48 + 6 * i + j - 48 = 6 * i + j by omega]; exact hB i hi j hj
      · rw [hf _ (by omega), if_neg (by omega)]
      · rw [hf _ (by omega), if_neg (by omega)]
    · intro k hk hnx f hf
      refine h28 _ _ (it_le (a := 86) (by omega) (by omega) (fun y => absurd y (by omega)) (fun _ => ?_))
      have go : ∀ v, v = (if 48 ≤ k ∧ k ≤ 83 then b (k - 48) else 0) → J28 (nI k + 1) (upd f (nI k).toNatClampNeg v) := by
        intro v ev
        rw [nI_clamp (by omega), nI_1]
        refine hnx _ (fun j hj => ?_)
        by_cases z : j = k
        · subst z; rw [pk_us]; exact ev
        · rw [pk_un z]; exact hf j (by omega)
      refine p_i9 (lo := 48) (hi := 83) (by omega) (by omega) (by omega) (fun q => ?_) (fun q => ?_)
      · intro J63 h63
        refine i1 ?_
        rw [show (48 : Int32) = nI 48 from rfl, pk_sub q.1]
        refine ⟨vl _ _ (by omega) (by omega), h63 _ ⟨vl _ _ (by omega) (by omega), go _ ?_⟩⟩
        rw [if_pos q, nI_clamp (by omega)]
      · intro J63 h63
        refine i0 (h63 _ ⟨vl _ _ (by omega) (by omega), go _ ?_⟩)
        rw [if_neg q]
  · intro k hk hnx g hg
    refine h2 _ _ (it_le (a := 37) (by omega) (by omega) (fun y => absurd y (by omega)) (fun _ => ?_))
    rw [nI_clamp (by omega), nI_1]
    refine ⟨vl _ _ (by omega) (by omega), vl _ _ (by omega) (by omega), hnx _ (fun j hj => ?_)⟩
    by_cases z : j = k
    · subst z; exact pk_us
    · rw [pk_un z]; exact hg j (by omega)
theorem p_wordOfX {x : Int32} {w : aW} {bg : Nat → Int32} {i j n : Nat} {K : Int32 → (Nat → Int32) → Prop} (hx : x = nI (tot w)) (hB : rB bg w) (hi : i < 6) (hj : j < 6) (hn : n < 8) (hK : ∀ b', rB b' (wf w i j n) → K (nI (tot (wf w i j n))) b') : wpX9_wordOf x bg (nI i) (nI j) (nI n) K := by
  subst hx
  exact p_wordOf hB hi hj hn hK
theorem r_init {K : Int32 → Int32 → Int32 → Int32 → Int32 → Int32 → Int32 → (Nat → Int32) → (Nat → Int32) → (Nat → Int32) → (Nat → Int32) → (Nat → Int32) → (Nat → Int32) → (Nat → Int32) → (Nat → Int32) → (Nat → Int32) → (Nat → Int32) → (Nat → Int32) → (Nat → Int32) → Prop}
    (hK : ∀ x d b tl s, rT fP11 tl → rS s fw8 (fun _ _ => 0) 0 0 → K 0 x 0 0 0 0 0 (fun _ => 0) tl d b s (fun _ => 0) (fun _ => 0) (fun _ => 0) (fun _ => 0) (fun _ => 0) (fun _ => 0) (fun _ => 0)) : wpX9_init K := by
  unfold wpX9_init
  refine p_begins (fun d0 b0 hd hb => ?_)
  refine p_personOf (P := fP0) (a := 0) (b := 2) (f := 6) hd (by decide +kernel) (by decide) (fun d1 hd => ?_) (by decide)
  refine p_personOf (P := fP1) (a := 1) (b := 2) (f := 12) hd (by decide +kernel) (by decide) (fun d2 hd => ?_) (by decide)
  refine p_personOf (P := fP2) (a := 2) (b := 2) (f := 9) hd (by decide +kernel) (by decide) (fun d3 hd => ?_) (by decide)
  refine p_personOf (P := fP3) (a := 3) (b := 1) (f := 5) hd (by decide +kernel) (by decide) (fun d4 hd => ?_) (by decide)
  refine p_personOf (P := fP4) (a := 4) (b := 3) (f := 8) hd (by decide +kernel) (by decide) (fun d5 hd => ?_) (by decide)
  refine p_nameOf (P := fP5) (a := 3) (b := 2) hd (by decide +kernel) (fun d6 hd => ?_)
  refine p_nameOf (P := fP6) (a := 9) (b := 4) hd (by decide +kernel) (fun d7 hd => ?_)
  refine p_nameOf (P := fP7) (a := 1) (b := 1) hd (by decide +kernel) (fun d8 hd => ?_)
  refine p_nameOf (P := fP8) (a := 14) (b := 3) hd (by decide +kernel) (fun d9 hd => ?_)
  refine p_nameOf (P := fP9) (a := 6) (b := 5) hd (by decide +kernel) (fun d10 hd => ?_)
  refine p_wordOfX (w := fw0) (i := 0) (j := 1) (n := 0) (show (0 : Int32) = nI (tot fw0) by rw [ft0]; rfl) hb (by decide) (by decide) (by decide) (fun b1 hb => ?_)
  refine p_wordOf (w := fw1) (i := 1) (j := 0) (n := 3) hb (by decide) (by decide) (by decide) (fun b2 hb => ?_)
  refine p_wordOf (w := fw2) (i := 2) (j := 1) (n := 1) hb (by decide) (by decide) (by decide) (fun b3 hb => ?_)
  refine p_wordOf (w := fw3) (i := 0) (j := 2) (n := 2) hb (by decide) (by decide) (by decide) (fun b4 hb => ?_)
  refine p_wordOf (w := fw4) (i := 3) (j := 2) (n := 4) hb (by decide) (by decide) (by decide) (fun b5 hb => ?_)
  refine p_wordOf (w := fw5) (i := 4) (j := 1) (n := 0) hb (by decide) (by decide) (by decide) (fun b6 hb => ?_)
  refine p_wordOf (w := fw6) (i := 1) (j := 3) (n := 1) hb (by decide) (by decide) (by decide) (fun b7 hb => ?_)
  refine p_wordOf (w := fw7) (i := 0) (j := 4) (n := 1) hb (by decide) (by decide) (by decide) (fun b8 hb => ?_)
  refine p_lays (P := fP11) (w := fw8) ?_ hb (fun tl s' h1 h2 => hK _ _ _ _ _ h1 h2)
  obtain ⟨u0, u1, u2, u3, u9, u15, u21, u29⟩ := hd
  rw [k2]
  refine ⟨?_, ?_, ?_, fun p hp => ?_, fun p hp => ?_, fun p hp => ?_, fun n hn => ?_, fun n hn => ?_⟩
  · rw [pk_un (by omega)]; exact u0
  · rw [pk_un (by omega)]; exact u1
  · rw [pk_us]; rfl
  · rw [pk_un (by omega)]; exact u3 p hp
  · rw [pk_un (by omega)]; exact u9 p hp
  · rw [pk_un (by omega)]; exact u15 p hp
  · rw [pk_un (by omega)]; exact u21 n hn
  · rw [pk_un (by omega)]; exact u29 n hn
