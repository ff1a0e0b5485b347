/-! pure: piles -/
abbrev aS : Type := aW × aT × Int32 × Int32
def pl (N x k : Nat) : Nat := if k < x then x - 1 - k else x + N - 1 - k
theorem pl_lt {N x k : Nat} (hx : x < N) (hk : k < N) : pl N x k < N := by unfold pl; split <;> omega
def nx (N x : Nat) : Nat := if N - 1 ≤ x then 0 else x + 1
theorem nx_lt {N x : Nat} (hx : x < N) : nx N x < N := by unfold nx; split <;> omega
theorem pl_nx0 {N x : Nat} (hx : x < N) : pl N (nx N x) 0 = x := by unfold pl nx; split <;> split <;> omega
theorem pl_nxS {N x k : Nat} (hx : x < N) (hk : k + 1 < N) : pl N (nx N x) (k + 1) = pl N x k := by unfold pl nx; split <;> split <;> split <;> omega
theorem pl_ne {N x k : Nat} (hx : x < N) (hk : k + 1 < N) : pl N x k ≠ x := by unfold pl; split <;> omega
def bk (N x : Nat) : Nat := if x = 0 then N - 1 else x - 1
theorem bk_lt {N x : Nat} (hx : x < N) : bk N x < N := by unfold bk; split <;> omega
theorem pl_bk0 {N x : Nat} (hx : x < N) : pl N x 0 = bk N x := by unfold pl bk; split <;> split <;> omega
theorem pl_bkS {N x k : Nat} (hx : x < N) (hk : k + 1 < N) : pl N (bk N x) k = pl N x (k + 1) := by unfold pl bk; split <;> split <;> split <;> omega
def rStd (rows : Nat → Int64) (f : Nat → Int32) (d l : Int32) (S : aS) : Prop := rW rows S.1 ∧ rD f S.2.1 ∧ d = S.2.2.1 ∧ l = S.2.2.2
def rPile (N : Nat) (held next : Int32) (rows : Nat → Nat → Int64) (stt : Nat → Nat → Int32) (days nob : Nat → Int32) (c : Nat) (F : Nat → aS) : Prop :=
  held = nI c ∧ c ≤ N ∧ ∃ x, x < N ∧ next = nI x ∧ ∀ k, k < c → rStd (rows (pl N x k)) (stt (pl N x k)) (days (pl N x k)) (nob (pl N x k)) (F k)
def pushF (S : aS) (F : Nat → aS) : Nat → aS := fun k => if k = 0 then S else F (k - 1)
def pushC (N c : Nat) : Nat := if c + 1 < N then c + 1 else N
theorem up_s {α : Type} (f : Nat → α) (k : Nat) (v : α) : va_up f k v k = v := if_pos rfl
theorem up_n {α : Type} (f : Nat → α) {k j : Nat} (v : α) (h : j ≠ k) : va_up f k v j = f j := if_neg h
theorem p_push {N : Nat} (hN : N < 100) {held next : Int32} {rows : Nat → Nat → Int64} {stt : Nat → Nat → Int32} {days nob : Nat → Int32} {c : Nat} {F : Nat → aS} {qr : Nat → Int64} {qf : Nat → Int32} {qd ql : Int32} {S : aS} {K : Int32 → Int32 → (Nat → Int32) → (Nat → Int32) → (Nat → Nat → Int64) → (Nat → Nat → Int32) → Prop}
    (h : rPile N held next rows stt days nob c F) (hq : rStd qr qf qd ql S) (hK : ∀ a b e f g i, rPile N a b g i e f (pushC N c) (pushF S F) → K a b e f g i) :
    ∃ k, k < N ∧ wpX2_push k N held next (rows k) (stt k) qd ql qr qf (fun x0 x1 x2 x3 x4 x5 => K x0 x1 (va_up days k x2) (va_up nob k x3) (va_up rows k x4) (va_up stt k x5)) := by
  obtain ⟨h1, h2, x, hx, h3, h4⟩ := h
  refine ⟨x, hx, ?_⟩
  unfold wpX2_push
  refine ⟨h3, p_sbecome hq.1 hq.2.1 (fun r g hr hg => ?_)⟩
  intro J hJ
  have fin : J (nI (nx N x)) := by
    refine hJ _ (hK _ _ _ _ _ _ ⟨?_, ?_, nx N x, nx_lt hx, rfl, fun k hk => ?_⟩)
    · rw [h1, nI_1]
      show (if nI (c + 1) < nI N then nI (c + 1) else nI N) = nI (pushC N c)
      unfold pushC
      by_cases q : c + 1 < N
      · rw [if_pos q, if_pos ((nI_ltI (by omega) (by omega)).mpr q)]
      · rw [if_neg q, if_neg (fun z => q ((nI_ltI (by omega) (by omega)).mp z))]
    · unfold pushC; split <;> omega
    · cases k with
      | zero =>
        rw [pl_nx0 hx, up_s, up_s, up_s, up_s]
        exact ⟨hr, hg, hq.2.2.1, hq.2.2.2⟩
      | succ k =>
        have hkN : k + 1 < N := by unfold pushC at hk; split at hk <;> omega
        have hkc : k < c := by unfold pushC at hk; split at hk <;> omega
        have hne := pl_ne hx hkN
        rw [pl_nxS hx hkN, up_n _ _ hne, up_n _ _ hne, up_n _ _ hne, up_n _ _ hne]
        exact h4 k hkc
  rw [h3]
  show if nI N - 1 ≤ nI x then J (nI 0) else J (nI x + 1)
  rw [nI_p1 (by omega), nI_1]
  unfold nx at fin
  refine it_le (by omega) (by omega) (fun q => ?_) (fun q => ?_)
  · rw [if_pos q] at fin; exact fin
  · rw [if_neg (by omega)] at fin; exact fin
theorem p_pop {N : Nat} (hN : N < 100) {held next : Int32} {rows : Nat → Nat → Int64} {stt : Nat → Nat → Int32} {days nob : Nat → Int32} {c : Nat} {F : Nat → aS} {qr : Nat → Int64} {qf : Nat → Int32} {qd ql : Int32} {K : Int32 → Int32 → Int32 → Int32 → (Nat → Int64) → (Nat → Int32) → Prop}
    (h : rPile N held next rows stt days nob (c + 1) F) (hK : ∀ a b d l r g, rPile N a b rows stt days nob c (fun k => F (k + 1)) → rStd r g d l (F 0) → K a b d l r g) :
    ∃ k, k < N ∧ wpX2_pop k N held next (days k) (nob k) (rows k) (stt k) qd ql qr qf (fun x0 x1 x2 x3 x4 x5 => K x0 x1 x2 x3 x4 x5) := by
  obtain ⟨h1, h2, x, hx, h3, h4⟩ := h
  have h0 := h4 0 (by omega)
  rw [pl_bk0 hx] at h0
  have fin : ∀ y : Int32, y = nI (bk N x) → (y = nI (bk N x) ∧ (if held < 1 then K held next qd ql qr qf else (wpX5_become qr qf (days (bk N x)) (nob (bk N x)) (rows (bk N x)) (stt (bk N x)) (fun d l r g => K (held - 1) y d l r g)))) := by
    intro y hy
    refine ⟨hy, ?_⟩
    rw [h1]
    refine it_lt (b := 1) (by omega) (by omega) (fun q => absurd q (by omega)) (fun _ => ?_)
    refine p_sbecome h0.1 h0.2.1 (fun r g hr hg => ?_)
    refine hK _ _ _ _ _ _ ⟨?_, by omega, bk N x, bk_lt hx, hy, fun k hk => ?_⟩ ⟨hr, hg, h0.2.2.1, h0.2.2.2⟩
    · exact nI_pred c
    · rw [pl_bkS hx (by omega)]
      exact h4 (k + 1) (by omega)
  refine ⟨bk N x, bk_lt hx, ?_⟩
  unfold wpX2_pop
  rw [h3]
  refine it_le (b := 0) (by omega) (by omega) (fun q => ?_) (fun q => ?_)
  · intro y hy
    have := fin y (by
      rw [hy]
      show nI N - 1 = _
      rw [nI_p1 (by omega)]
      unfold bk
      rw [if_pos (by omega)])
    rw [h3] at this
    exact this
  · intro y hy
    have := fin y (by
      rw [hy, nI_p1 (by omega)]
      unfold bk
      rw [if_neg (by omega)])
    rw [h3] at this
    exact this
/-! the reference's rows of images -/
def rIm (N : Nat) (past : Nat → Int32) (c : Nat) (F : Nat → aS) : Prop := c ≤ N ∧ ∀ k, k < c → rS (fun t => past (86 * (c - 1 - k) + t)) (F k).1 (F k).2.1 (F k).2.2.1 (F k).2.2.2
theorem m86 (a : Nat) : (86 : Int32) * nI a = nI (86 * a) := pk_mul 86 a
/-- copying s into block c of a row of M -/
theorem p_blockIn {M c : Nat} {s f : Nat → Int32} {J : Int32 → (Nat → Int32) → Prop} (hM : 86 * (c + 1) ≤ M) (hM2 : M < 2 ^ 31)
    (hend : ∀ g, (∀ t, t < 86 → g (86 * c + t) = s t) → (∀ t, t < 86 * c → g t = f t) → J (nI 86) g)
    (hstep : ∀ k g, k < 86 → J (nI k + 1) (upd g (86 * c + k) (s k)) → J (nI k) g) : J 0 f := by
  refine (kloop (J := fun k => ∀ g, (∀ t, t < k → g (86 * c + t) = s t) → (∀ t, t < 86 * c → g t = f t) → J (nI k) g) (N := 86) hend ?_) f (fun t ht => absurd ht (by omega)) (fun t _ => rfl)
  intro k hk hnx g hg1 hg2
  refine hstep k g hk ?_
  rw [nI_1]
  refine hnx _ (fun t ht => ?_) (fun t ht => ?_)
  · by_cases e : t = k
    · subst e; exact pk_us
    · rw [pk_un (by omega)]; exact hg1 t (by omega)
  · rw [pk_un (by omega)]; exact hg2 t ht
theorem p_keeps {s past : Nat → Int32} {c : Nat} {F : Nat → aS} {S : aS} {K : Int32 → (Nat → Int32) → Prop} (h : rIm 8 past c F) (hs : rS s S.1 S.2.1 S.2.2.1 S.2.2.2) (hK : ∀ g, rIm 8 g (pushC 8 c) (pushF S F) → K (nI (pushC 8 c)) g) : wpX9_keeps (nI c) s past K := by
  obtain ⟨h1, h2⟩ := h
  unfold wpX9_keeps
  intro J hJ
  have main : ∀ c', c' < 8 → c' + 1 = pushC 8 c → ∀ g, (∀ k, k < c' → rS (fun t => g (86 * (c' - 1 - k) + t)) (F k).1 (F k).2.1 (F k).2.2.1 (F k).2.2.2) → J (nI c') g := by
    intro c' hc' hcc g hg
    refine hJ _ _ ?_
    intro J2 hJ2
    refine p_blockIn (M := 688) (c := c') (s := s) (by omega) (by omega) ?_ ?_
    · intro g2 hg21 hg22
      refine hJ2 _ _ (it_le (a := 86) (b := 86) (by omega) (by omega) (fun _ => ?_) (fun q => absurd q (by omega)))
      rw [nI_1, hcc]
      refine hK g2 ⟨by omega, fun k hk => ?_⟩
      cases k with
      | zero =>
        refine rS_copy hs (fun t ht => ?_)
        show g2 (86 * (pushC 8 c - 1 - 0) + t) = s t
        rw [show pushC 8 c - 1 - 0 = c' by omega]
        exact hg21 t ht
      | succ k =>
        refine rS_copy (hg k (by omega)) (fun t ht => ?_)
        show g2 (86 * (pushC 8 c - 1 - (k + 1)) + t) = g (86 * (c' - 1 - k) + t)
        rw [show pushC 8 c - 1 - (k + 1) = c' - 1 - k by omega]
        exact hg22 _ (by omega)
    · intro k g2 hk hg2
      refine hJ2 _ _ (it_le (a := 86) (b := k) (by omega) (by omega) (fun q => absurd q (by omega)) (fun _ => ?_))
      rw [m86, nI_add, nI_clamp (by omega), nI_clamp (by omega)]
      exact ⟨vl _ _ (by omega) (by omega), vl _ _ (by omega) (by omega), hg2⟩
  refine it_eq (b := 8) (by omega) (by omega) (fun q => ?_) (fun q => ?_)
  · intro J3 hJ3
    subst q
    refine (kloop (J := fun k => ∀ g, (∀ t, t < k → g t = past (t + 86)) → (∀ t, k ≤ t → g t = past t) → J3 (nI k) g) (N := 602) ?_ ?_) past (fun t ht => absurd ht (by omega)) (fun t _ => rfl)
    · intro g hg1 hg2
      refine hJ3 _ _ (it_le (a := 602) (b := 602) (by omega) (by omega) (fun _ => ?_) (fun q => absurd q (by omega)))
      show J (nI 8 - 1) g
      rw [nI_p1 (by omega)]
      refine main 7 (by omega) (by decide) g (fun k hk => ?_)
      refine rS_copy (h2 k (by omega)) (fun t ht => ?_)
      show g (86 * (7 - 1 - k) + t) = past (86 * (8 - 1 - k) + t)
      rw [hg1 _ (by omega)]
      congr 1
      omega
    · intro k hk hnx g hg1 hg2
      refine hJ3 _ _ (it_le (a := 602) (b := k) (by omega) (by omega) (fun q => absurd q (by omega)) (fun _ => ?_))
      have e86 : nI k + 86 = nI (k + 86) := nI_add k 86
      rw [e86, nI_clamp (by omega), nI_clamp (by omega)]
      refine ⟨vl _ _ (by omega) (by omega), vl _ _ (by omega) (by omega), ?_⟩
      rw [nI_1]
      refine hnx _ (fun t ht => ?_) (fun t ht => ?_)
      · by_cases e : t = k
        · subst e; rw [pk_us]; exact hg2 _ (by omega)
        · rw [pk_un e]; exact hg1 t (by omega)
      · rw [pk_un (by omega)]; exact hg2 t (by omega)
  · refine main c (by omega) ?_ past h2
    unfold pushC
    split <;> omega
/-- block c of a row into s -/
theorem p_blockOut {s f : Nat → Int32} {c : Nat} {J : Int32 → (Nat → Int32) → Prop}
    (hend : ∀ g, (∀ t, t < 86 → g t = f (86 * c + t)) → J (nI 86) g)
    (hstep : ∀ k g, k < 86 → J (nI k + 1) (upd g k (f (86 * c + k))) → J (nI k) g) : J 0 s := by
  refine (kloop (J := fun k => ∀ g, (∀ t, t < k → g t = f (86 * c + t)) → J (nI k) g) (N := 86) hend ?_) s (fun t ht => absurd ht (by omega))
  intro k hk hnx g hg
  refine hstep k g hk ?_
  rw [nI_1]
  refine hnx _ (fun t ht => ?_)
  by_cases e : t = k
  · subst e; exact pk_us
  · rw [pk_un e]; exact hg t (by omega)
theorem rIm.pop {N : Nat} {past : Nat → Int32} {c : Nat} {F : Nat → aS} (h : rIm N past (c + 1) F) : rIm N past c (fun k => F (k + 1)) := by
  refine ⟨by have := h.1; omega, fun k hk => ?_⟩
  have := h.2 (k + 1) (by omega)
  rw [show c + 1 - 1 - (k + 1) = c - 1 - k by omega] at this
  exact this
/-! undo -/
theorem c_undo0 {b : Int32} {qd ql : Int32} {qr : Nat → Int64} {qf : Nat → Int32} {rows : Nat → Nat → Int64} {stt : Nat → Nat → Int32} {days nob : Nat → Int32} {next : Int32} {K : Int32 → Int32 → Int32 → Int32 → Int32 → (Nat → Int64) → (Nat → Int32) → Prop} (hb : b = nI 0) (hK : K (-2) b next qd ql qr qf) : wpX8_undo b next qd ql qr qf rows stt days nob K := by
  unfold wpX8_undo
  subst hb
  exact it_le (a := 1) (b := 0) (by omega) (by omega) (fun q => absurd q (by omega)) (fun _ => hK)
theorem c_undo1 {held next : Int32} {rows : Nat → Nat → Int64} {stt : Nat → Nat → Int32} {days nob : Nat → Int32} {c : Nat} {F : Nat → aS} {qr : Nat → Int64} {qf : Nat → Int32} {qd ql : Int32} {K : Int32 → Int32 → Int32 → Int32 → Int32 → (Nat → Int64) → (Nat → Int32) → Prop}
    (h : rPile 8 held next rows stt days nob (c + 1) F) (hK : ∀ b d l r g, rPile 8 (nI c) b rows stt days nob c (fun k => F (k + 1)) → rStd r g d l (F 0) → K (nI c) (nI c) b d l r g) : wpX8_undo held next qd ql qr qf rows stt days nob K := by
  have h8 := h.2.1
  unfold wpX8_undo
  rw [h.1]
  refine it_le (a := 1) (by omega) (by omega) (fun _ => ?_) (fun q => absurd q (by omega))
  have := p_pop (N := 8) (by omega) (qr := qr) (qf := qf) (qd := qd) (ql := ql) (K := fun a b d l r g => K a a b d l r g) h (by
    intro a b d l r g hp hs
    have e : a = nI c := hp.1
    subst e
    exact hK b d l r g hp hs)
  rw [h.1] at this
  exact this
theorem r_undo0 {s past : Nat → Int32} {K : Int32 → Int32 → (Nat → Int32) → Prop} (hK : K (-2) (nI 0) s) : wpX9_undo (nI 0) s past K := by
  unfold wpX9_undo
  exact it_eq (a := 0) (b := 0) (by omega) (by omega) (fun _ => hK) (fun q => absurd rfl q)
theorem r_undo1 {s past : Nat → Int32} {c : Nat} {F : Nat → aS} {K : Int32 → Int32 → (Nat → Int32) → Prop} (h : rIm 8 past (c + 1) F) (hK : ∀ g, rIm 8 past c (fun k => F (k + 1)) → rS g (F 0).1 (F 0).2.1 (F 0).2.2.1 (F 0).2.2.2 → K (nI c) (nI c) g) : wpX9_undo (nI (c + 1)) s past K := by
  have h8 := h.1
  unfold wpX9_undo
  refine it_eq (b := 0) (by omega) (by omega) (fun q => absurd q (by omega)) (fun _ => ?_)
  intro J hJ
  refine p_blockOut (f := past) (c := c) ?_ ?_
  · intro g hg
    refine hJ _ _ (it_le (a := 86) (b := 86) (by omega) (by omega) (fun _ => ?_) (fun q => absurd q (by omega)))
    rw [nI_pred]
    refine hK g h.pop ?_
    have := h.2 0 (by omega)
    refine rS_copy this (fun t ht => ?_)
    rw [hg t ht]
    congr 1
  · intro k g hk hg
    refine hJ _ _ (it_le (a := 86) (b := k) (by omega) (by omega) (fun q => absurd q (by omega)) (fun _ => ?_))
    rw [nI_pred, m86, nI_add, nI_clamp (by omega), nI_clamp (by omega)]
    exact ⟨vl _ _ (by omega) (by omega), vl _ _ (by omega) (by omega), hg⟩
/-! keep -/
theorem c_keep0 {next : Int32} {rows : Nat → Nat → Int64} {stt : Nat → Nat → Int32} {days nob : Nat → Int32} {qr : Nat → Int64} {qf : Nat → Int32} {qd ql : Int32} {K : Int32 → Int32 → Int32 → (Nat → Nat → Int64) → (Nat → Nat → Int32) → (Nat → Int32) → (Nat → Int32) → Prop} (hK : K (-3) (nI 2) next rows stt days nob) : wpX8_keep (nI 2) next qd ql qr qf rows stt days nob K := by
  unfold wpX8_keep
  exact it_lt (a := 2) (b := 2) (by omega) (by omega) (fun q => absurd q (by omega)) (fun _ => hK)
theorem c_keep1 {held next : Int32} {rows : Nat → Nat → Int64} {stt : Nat → Nat → Int32} {days nob : Nat → Int32} {c : Nat} {F : Nat → aS} {qr : Nat → Int64} {qf : Nat → Int32} {qd ql : Int32} {S : aS} {K : Int32 → Int32 → Int32 → (Nat → Nat → Int64) → (Nat → Nat → Int32) → (Nat → Int32) → (Nat → Int32) → Prop} (hc : c < 2)
    (h : rPile 2 held next rows stt days nob c F) (hq : rStd qr qf qd ql S) (hK : ∀ b e f g i, rPile 2 (nI (c + 1)) b g i e f (c + 1) (pushF S F) → K (nI (c + 1)) (nI (c + 1)) b g i e f) : wpX8_keep held next qd ql qr qf rows stt days nob K := by
  unfold wpX8_keep
  rw [h.1]
  refine it_lt (b := 2) (by omega) (by omega) (fun _ => ?_) (fun q => absurd q (by omega))
  have ec : pushC 2 c = c + 1 := by unfold pushC; split <;> omega
  have := p_push (N := 2) (by omega) (K := fun a b e f g i => K a a b g i e f) h hq (by
    intro a b e f g i hp
    have e2 : a = nI (pushC 2 c) := hp.1
    rw [ec] at e2 hp
    subst e2
    exact hK b e f g i hp)
  rw [h.1] at this
  exact this
theorem r_keep0 {s im : Nat → Int32} {K : Int32 → Int32 → (Nat → Int32) → Prop} (hK : K (-3) (nI 2) im) : wpX9_keep (nI 2) s im K := by
  unfold wpX9_keep
  exact it_eq (a := 2) (b := 2) (by omega) (by omega) (fun _ => hK) (fun q => absurd rfl q)
theorem r_keep1 {s im : Nat → Int32} {c : Nat} {F : Nat → aS} {S : aS} {K : Int32 → Int32 → (Nat → Int32) → Prop} (hc : c < 2) (h : rIm 2 im c F) (hs : rS s S.1 S.2.1 S.2.2.1 S.2.2.2) (hK : ∀ g, rIm 2 g (c + 1) (pushF S F) → K (nI (c + 1)) (nI (c + 1)) g) : wpX9_keep (nI c) s im K := by
  unfold wpX9_keep
  refine it_eq (b := 2) (by omega) (by omega) (fun q => absurd q (by omega)) (fun _ => ?_)
  intro J hJ
  refine p_blockIn (M := 172) (c := c) (s := s) (by omega) (by omega) ?_ ?_
  · intro g hg1 hg2
    refine hJ _ _ (it_le (a := 86) (b := 86) (by omega) (by omega) (fun _ => ?_) (fun q => absurd q (by omega)))
    rw [nI_1]
    refine hK g ⟨by omega, fun k hk => ?_⟩
    cases k with
    | zero =>
      refine rS_copy hs (fun t ht => ?_)
      show g (86 * (c + 1 - 1 - 0) + t) = s t
      rw [show c + 1 - 1 - 0 = c by omega]
      exact hg1 t ht
    | succ k =>
      refine rS_copy (h.2 k (by omega)) (fun t ht => ?_)
      show g (86 * (c + 1 - 1 - (k + 1)) + t) = im (86 * (c - 1 - k) + t)
      rw [show c + 1 - 1 - (k + 1) = c - 1 - k by omega]
      exact hg2 _ (by omega)
  · intro k g hk hg
    refine hJ _ _ (it_le (a := 86) (b := k) (by omega) (by omega) (fun q => absurd q (by omega)) (fun _ => ?_))
    rw [m86, nI_add, nI_clamp (by omega), nI_clamp (by omega)]
    exact ⟨vl _ _ (by omega) (by omega), vl _ _ (by omega) (by omega), hg⟩
/-! back -/
theorem c_back0 {b next qd ql : Int32} {qr : Nat → Int64} {qf : Nat → Int32} {rows : Nat → Nat → Int64} {stt : Nat → Nat → Int32} {days nob : Nat → Int32} {K : Int32 → Int32 → Int32 → Int32 → Int32 → (Nat → Int64) → (Nat → Int32) → Int32 → Prop} (hK : K (-2) (nI 0) next qd ql qr qf b) : wpX8_back (nI 0) next qd ql qr qf b rows stt days nob K := by
  unfold wpX8_back
  exact it_le (a := 1) (b := 0) (by omega) (by omega) (fun q => absurd q (by omega)) (fun _ => hK)
theorem c_back1 {held next b : Int32} {rows : Nat → Nat → Int64} {stt : Nat → Nat → Int32} {days nob : Nat → Int32} {c : Nat} {F : Nat → aS} {qr : Nat → Int64} {qf : Nat → Int32} {qd ql : Int32} {K : Int32 → Int32 → Int32 → Int32 → Int32 → (Nat → Int64) → (Nat → Int32) → Int32 → Prop}
    (h : rPile 2 held next rows stt days nob (c + 1) F) (hK : ∀ x d l r g, rPile 2 (nI c) x rows stt days nob c (fun k => F (k + 1)) → rStd r g d l (F 0) → K (nI c) (nI c) x d l r g 0) : wpX8_back held next qd ql qr qf b rows stt days nob K := by
  have h8 := h.2.1
  unfold wpX8_back
  rw [h.1]
  refine it_le (a := 1) (by omega) (by omega) (fun _ => ?_) (fun q => absurd q (by omega))
  have := p_pop (N := 2) (by omega) (qr := qr) (qf := qf) (qd := qd) (ql := ql) (K := fun a x d l r g => K a a x d l r g 0) h (by
    intro a x d l r g hp hs
    have e : a = nI c := hp.1
    subst e
    exact hK x d l r g hp hs)
  rw [h.1] at this
  exact this
theorem r_back0 {s im : Nat → Int32} {kn : Int32} {K : Int32 → Int32 → Int32 → (Nat → Int32) → Prop} (hK : K (-2) kn (nI 0) s) : wpX9_back kn (nI 0) s im K := by
  unfold wpX9_back
  exact it_eq (a := 0) (b := 0) (by omega) (by omega) (fun _ => hK) (fun q => absurd rfl q)
theorem r_back1 {s im : Nat → Int32} {kn : Int32} {c : Nat} {F : Nat → aS} {K : Int32 → Int32 → Int32 → (Nat → Int32) → Prop} (h : rIm 2 im (c + 1) F) (hK : ∀ g, rIm 2 im c (fun k => F (k + 1)) → rS g (F 0).1 (F 0).2.1 (F 0).2.2.1 (F 0).2.2.2 → K (nI c) 0 (nI c) g) : wpX9_back kn (nI (c + 1)) s im K := by
  have h8 := h.1
  unfold wpX9_back
  refine it_eq (b := 0) (by omega) (by omega) (fun q => absurd q (by omega)) (fun _ => ?_)
  intro J hJ
  refine p_blockOut (f := im) (c := c) ?_ ?_
  · intro g hg
    refine hJ _ _ (it_le (a := 86) (b := 86) (by omega) (by omega) (fun _ => ?_) (fun q => absurd q (by omega)))
    rw [nI_pred]
    refine hK g h.pop ?_
    have := h.2 0 (by omega)
    refine rS_copy this (fun t ht => ?_)
    rw [hg t ht]
    congr 1
  · intro k g hk hg
    refine hJ _ _ (it_le (a := 86) (b := k) (by omega) (by omega) (fun q => absurd q (by omega)) (fun _ => ?_))
    rw [nI_pred, m86, nI_add, nI_clamp (by omega), nI_clamp (by omega)]
    exact ⟨vl _ _ (by omega) (by omega), vl _ _ (by omega) (by omega), hg⟩
