/-! pure: the reference's rows -/
theorem m8 (a : Nat) : (8 : Int32) * nI a = nI (8 * a) := pk_mul 8 a
theorem m6 (a : Nat) : (6 : Int32) * nI a = nI (6 * a) := pk_mul 6 a
theorem m10 (a : Nat) : (10 : Int32) * nI a = nI (10 * a) := pk_mul 10 a
theorem a3 (a : Nat) : (3 : Int32) + nI a = nI (3 + a) := nI_add 3 a
theorem a9 (a : Nat) : (9 : Int32) + nI a = nI (9 + a) := nI_add 9 a
theorem a15 (a : Nat) : (15 : Int32) + nI a = nI (15 + a) := nI_add 15 a
theorem a21 (a : Nat) : (21 : Int32) + nI a = nI (21 + a) := nI_add 21 a
theorem a29 (a : Nat) : (29 : Int32) + nI a = nI (29 + a) := nI_add 29 a
theorem a48 (a : Nat) : (48 : Int32) + nI a = nI (48 + a) := nI_add 48 a
theorem k0 : Int32.toNatClampNeg 0 = 0 := by decide
theorem k1 : Int32.toNatClampNeg 1 = 1 := by decide
theorem k2 : Int32.toNatClampNeg 2 = 2 := by decide
theorem k84 : Int32.toNatClampNeg 84 = 84 := by decide
theorem k85 : Int32.toNatClampNeg 85 = 85 := by decide
theorem vl (a N : Nat) (h : a < N) (hN : N < 2 ^ 31) : vp_in (nI a) N := vp_in_nI h hN
/-- what a port tells: how many persons, names, Q; kinds, beds, food; how unkind, what they eat -/
abbrev aP : Type := Nat × Nat × Nat × (Nat → Nat) × (Nat → Nat) × (Nat → Nat) × (Nat → Nat) × (Nat → Nat)
abbrev Pnp (P : aP) : Nat := P.1
abbrev Pnn (P : aP) : Nat := P.2.1
abbrev Pq (P : aP) : Nat := P.2.2.1
abbrev Pkind (P : aP) : Nat → Nat := P.2.2.2.1
abbrev Pbed (P : aP) : Nat → Nat := P.2.2.2.2.1
abbrev Pfood (P : aP) : Nat → Nat := P.2.2.2.2.2.1
abbrev Punk (P : aP) : Nat → Nat := P.2.2.2.2.2.2.1
abbrev Peat (P : aP) : Nat → Nat := P.2.2.2.2.2.2.2
def PV (P : aP) : Prop := Pnp P ≤ 6 ∧ Pnn P ≤ 8 ∧ (1 ≤ Pq P ∧ Pq P < 21) ∧ (∀ p, Pkind P p < 5) ∧ (∀ p, Pbed P p < 11) ∧ (∀ p, Pfood P p < 31) ∧ (∀ n, Punk P n < 21) ∧ (∀ n, Peat P n < 10)
def rT (P : aP) (told : Nat → Int32) : Prop := told 0 = nI (Pnp P) ∧ told 1 = nI (Pnn P) ∧ told 2 = nI (Pq P) ∧ (∀ p, p < 6 → told (3 + p) = nI (Pkind P p)) ∧ (∀ p, p < 6 → told (9 + p) = nI (Pbed P p)) ∧ (∀ p, p < 6 → told (15 + p) = nI (Pfood P p)) ∧ (∀ n, n < 8 → told (21 + n) = nI (Punk P n)) ∧ (∀ n, n < 8 → told (29 + n) = nI (Peat P n))
abbrev aW : Type := Nat → Nat → Nat → Bool
abbrev aT : Type := Nat → Nat → Nat
def rS (s : Nat → Int32) (w : aW) (st : aT) (d l : Int32) : Prop := (∀ p, p < 6 → ∀ n, n < 8 → s (8 * p + n) = nI (st p n)) ∧ (∀ i, i < 6 → ∀ j, j < 6 → s (48 + 6 * i + j) = nI (wm w i j)) ∧ s 84 = d ∧ s 85 = l
def uT (st : aT) (p : Nat) (v : Nat → Nat) : aT := fun a => if a = p then v else st a
theorem uT_s (st : aT) (p : Nat) (v : Nat → Nat) : uT st p v p = v := if_pos rfl
theorem uT_n (st : aT) {p a : Nat} (v : Nat → Nat) (h : a ≠ p) : uT st p v a = st a := if_neg h
theorem uT_uT (st : aT) (p : Nat) (v v' : Nat → Nat) : uT (uT st p v) p v' = uT st p v' := by
  funext a
  unfold uT
  split <;> rfl
theorem uT_id (st : aT) (p : Nat) : uT st p (st p) = st := by
  funext a
  unfold uT
  split
  · rename_i h; rw [h]
  · rfl
theorem rS.put {s : Nat → Int32} {w : aW} {st : aT} {d l : Int32} (h : rS s w st d l) {p n : Nat} (hp : p < 6) (hn : n < 8) (v : Nat) : rS (upd s (8 * p + n) (nI v)) w (uT st p (uA (st p) n v)) d l := by
  refine ⟨fun p' hp' n' hn' => ?_, fun i hi j hj => ?_, ?_, ?_⟩
  · by_cases e : p' = p
    · subst e
      rw [uT_s]
      by_cases e2 : n' = n
      · subst e2; rw [pk_us, uA_s]
      · rw [pk_un (by omega), uA_n _ _ e2]; exact h.1 p' hp' n' hn'
    · rw [pk_un (by omega), uT_n _ _ e]; exact h.1 p' hp' n' hn'
  · rw [pk_un (by omega)]; exact h.2.1 i hi j hj
  · rw [pk_un (by omega)]; exact h.2.2.1
  · rw [pk_un (by omega)]; exact h.2.2.2
theorem rS.lost {s : Nat → Int32} {w : aW} {st : aT} {d l : Int32} (h : rS s w st d l) (v : Int32) : rS (upd s 85 v) w st d v := by
  refine ⟨fun p' hp' n' hn' => ?_, fun i hi j hj => ?_, ?_, pk_us⟩
  · rw [pk_un (by omega)]; exact h.1 p' hp' n' hn'
  · rw [pk_un (by omega)]; exact h.2.1 i hi j hj
  · rw [pk_un (by omega)]; exact h.2.2.1
theorem rS.days {s : Nat → Int32} {w : aW} {st : aT} {d l : Int32} (h : rS s w st d l) (v : Int32) : rS (upd s 84 v) w st v l := by
  refine ⟨fun p' hp' n' hn' => ?_, fun i hi j hj => ?_, pk_us, ?_⟩
  · rw [pk_un (by omega)]; exact h.1 p' hp' n' hn'
  · rw [pk_un (by omega)]; exact h.2.1 i hi j hj
  · rw [pk_un (by omega)]; exact h.2.2.2
theorem p_thins {s : Nat → Int32} {w : aW} {st : aT} {d l : Int32} {p n b : Nat} {K : (Nat → Int32) → Prop} (hp : p < 6) (hn : n < 8) (hb : b < 10) (hv : V (st p)) (h : rS s w st d l) (hk : ∀ s', rS s' w (uT st p (uA (st p) n (st p n - b))) d l → K s') : wpX9_thins s (nI p) (nI n) (nI b) K := by
  unfold wpX9_thins
  intro x hx
  rw [m8, nI_add] at hx
  subst hx
  have hvn := hv n
  refine ⟨vl _ _ (by omega) (by omega), ?_⟩
  rw [nI_clamp (by omega), h.1 p hp n hn]
  intro J hJ
  refine it_le (a := st p n) (b := b) (by omega) (by omega) (fun q => ?_) (fun q => ?_)
  · refine hJ _ ⟨vl _ _ (by omega) (by omega), ?_⟩
    have := h.put hp hn (st p n - b)
    rw [show st p n - b = 0 by omega] at this hk
    exact hk _ this
  · refine ⟨vl _ _ (by omega) (by omega), ?_⟩
    refine hJ _ ⟨vl _ _ (by omega) (by omega), ?_⟩
    rw [pk_sub (by omega)]
    exact hk _ (h.put hp hn _)
theorem kindTo_z (unk st : Nat → Nat) (n : Nat) : ∀ k f, kindTo unk st k = some f → st f ≠ 0 := by
  intro k
  induction k with
  | zero => intro f h; simp [kindTo] at h
  | succ k ih =>
    intro f h
    unfold kindTo at h
    split at h
    · exact ih f h
    · rename_i z
      split at h
      · cases h; exact z
      · rename_i g hg
        split at h
        · cases h; exact z
        · cases h; exact ih _ hg
theorem p_kindest {s told : Nat → Int32} {P : aP} {w : aW} {st : aT} {d l : Int32} {p : Nat} {K : Int32 → Prop} (hP : PV P) (hT : rT P told) (hp : p < 6) (hv : V (st p)) (h : rS s w st d l) (hk : K (zI (kindTo (Punk P) (st p) (Pnn P)))) : wpX9_kindest told s (nI p) K := by
  obtain ⟨hnp, hnn, hq, hkd, hbd, hfd, hu, he⟩ := hP
  obtain ⟨t0, t1, t2, t3, t9, t15, t21, t29⟩ := hT
  unfold wpX9_kindest
  intro J hJ
  refine kloop (J := fun k => J (zI (kindTo (Punk P) (st p) k)) (nI k)) (N := Pnn P) ?_ ?_
  · refine hJ _ _ ⟨vl 1 _ (by omega) (by omega), ?_⟩
    rw [k1, t1]
    exact it_le (by omega) (by omega) (fun _ => hk) (fun q => absurd q (by omega))
  · intro k hkn hnx
    refine hJ _ _ ⟨vl 1 _ (by omega) (by omega), ?_⟩
    rw [k1, t1]
    refine it_le (by omega) (by omega) (fun q => absurd q (by omega)) (fun _ => ?_)
    rw [m8, nI_add, nI_clamp (by omega), h.1 p hp k (by omega)]
    refine ⟨vl _ _ (by omega) (by omega), ?_⟩
    intro J1 hJ1 J2 hJ2
    have hvk := hv k
    have huk := hu k
    refine it_le (a := st p k) (b := 0) (by omega) (by omega) (fun q => ?_) (fun q => ?_)
    · refine hJ2 (hJ1 _ ?_)
      rw [nI_1]
      have e : kindTo (Punk P) (st p) (k + 1) = kindTo (Punk P) (st p) k := by
        conv => lhs; unfold kindTo
        rw [if_pos (by omega)]
      rw [← e]; exact hnx
    · intro J3 hJ3
      have z : ¬ st p k = 0 := by omega
      cases hkk : kindTo (Punk P) (st p) k with
      | none =>
        rw [if_pos (show zI none < 0 by decide)]
        refine hJ3 (hJ1 _ ?_)
        rw [nI_1]
        have e : kindTo (Punk P) (st p) (k + 1) = some k := by
          conv => lhs; unfold kindTo
          rw [if_neg z, hkk]
        rw [e] at hnx; exact hnx
      | some f =>
        have hf8 := kindTo_lt _ _ k f hkk
        have huf := hu f
        rw [if_neg (show ¬ zI (some f) < 0 from nI_pos (by omega))]
        show vp_in (21 + nI k) 37 ∧ vp_in (21 + nI f) 37 ∧ if told (Int32.toNatClampNeg (21 + nI f)) < told (Int32.toNatClampNeg (21 + nI k)) then J2 else J3
        rw [a21, a21, nI_clamp (by omega), nI_clamp (by omega), t21 f (by omega), t21 k (by omega)]
        refine ⟨vl _ _ (by omega) (by omega), vl _ _ (by omega) (by omega), ?_⟩
        refine it_lt (by omega) (by omega) (fun h2 => ?_) (fun h2 => ?_)
        · refine hJ2 ?_
          rw [hkk]
          refine hJ1 _ ?_
          rw [nI_1]
          have e : kindTo (Punk P) (st p) (k + 1) = some f := by
            conv => lhs; unfold kindTo
            rw [if_neg z, hkk]
            exact if_neg (by omega)
          rw [e] at hnx; exact hnx
        · refine hJ3 (hJ1 _ ?_)
          rw [nI_1]
          have e : kindTo (Punk P) (st p) (k + 1) = some k := by
            conv => lhs; unfold kindTo
            rw [if_neg z, hkk]
            exact if_pos (by omega)
          rw [e] at hnx; exact hnx
theorem sh_bit {x n : Nat} (hx : x < 256) (hn : n < 8) : (nI x >>> (nI n &&& 31)) &&& 1 = nI (bI (x.testBit n)) := by
  rw [pk_shrN (by omega) (nI n &&& 31) n (s_l n (by omega)), pk_andN (by have : x / 2 ^ n ≤ x := Nat.div_le_self _ _; omega) 1 (by decide), ← tb_div]
theorem p_saidBy {s told : Nat → Int32} {P : aP} {w : aW} {st : aT} {d l : Int32} {p n : Nat} {K : Int32 → Prop} (hP : PV P) (hT : rT P told) (hp : p < 6) (hn : n < 8) (hw : ∀ i, Pnp P ≤ i → w i p n = false) (h : rS s w st d l) (hk : K (nI (cw w p n))) : wpX9_saidBy told s (nI p) (nI n) K := by
  obtain ⟨hnp, hnn, hq, hkd, hbd, hfd, hu, he⟩ := hP
  obtain ⟨t0, t1, t2, t3, t9, t15, t21, t29⟩ := hT
  have e6 : cw w p n = nsum (fun i => bI (w i p n)) (Pnp P) := nsum_ext hnp (fun i h1 _ => by rw [hw i h1]; rfl)
  rw [e6] at hk
  unfold wpX9_saidBy
  intro J hJ
  refine kloop (J := fun k => J (nI (nsum (fun i => bI (w i p n)) k)) (nI k)) (N := Pnp P) ?_ ?_
  · refine hJ _ _ ⟨vl 0 _ (by omega) (by omega), ?_⟩
    rw [k0, t0]
    exact it_le (by omega) (by omega) (fun _ => hk) (fun q => absurd q (by omega))
  · intro i hi hnx
    refine hJ _ _ ⟨vl 0 _ (by omega) (by omega), ?_⟩
    rw [k0, t0]
    refine it_le (by omega) (by omega) (fun q => absurd q (by omega)) (fun _ => ?_)
    rw [m6, a48, nI_add, nI_clamp (by omega), h.2.1 i (by omega) p hp]
    refine ⟨vl _ _ (by omega) (by omega), ?_⟩
    intro x hx
    rw [sh_bit (wm_lt w i p) hn, wm_tb w i p hn, nI_add] at hx
    rw [hx, nI_1]
    exact hnx
theorem p_in {a lo hi : Nat} {K : Int32 → Prop} (h1 : a < 2 ^ 31) (h2 : lo < 2 ^ 31) (h3 : hi < 2 ^ 31) (h : K (nI (if lo ≤ a ∧ a ≤ hi then 1 else 0))) : wpX9_in (nI a) (nI lo) (nI hi) K := by
  unfold wpX9_in
  refine it_lt h1 h2 (fun q => ?_) (fun q => ?_)
  · rw [if_neg (by omega)] at h; exact h
  · refine it_lt h3 h1 (fun q2 => ?_) (fun q2 => ?_)
    · rw [if_neg (by omega)] at h; exact h
    · rw [if_pos (by omega)] at h; exact h
theorem qu_all : ∀ a, a < 21 → ∀ b, b < 21 → ∀ q, q < 21 → 1 ≤ q → (((nI a - nI b) < (1 - nI q) ∨ (nI q - 1) < (nI a - nI b)) ↔ q ≤ (a - b) + (b - a)) := by decide +kernel
theorem p_quarrels {told : Nat → Int32} {P : aP} {a b : Nat} {K : Int32 → Prop} (hP : PV P) (hT : rT P told) (ha : a < 8) (hb : b < 8) (h : K (nI (bI (decide (a ≠ b) && decide (Pq P ≤ (Punk P a - Punk P b) + (Punk P b - Punk P a)))))) : wpX9_quarrels told (nI a) (nI b) K := by
  obtain ⟨hnp, hnn, hq, hkd, hbd, hfd, hu, he⟩ := hP
  obtain ⟨t0, t1, t2, t3, t9, t15, t21, t29⟩ := hT
  unfold wpX9_quarrels
  rw [a21, a21, nI_clamp (by omega), nI_clamp (by omega), t21 a ha, t21 b hb]
  refine ⟨vl _ _ (by omega) (by omega), vl _ _ (by omega) (by omega), ?_⟩
  intro x hx
  refine it_eq (by omega) (by omega) (fun e => ?_) (fun e => ?_)
  · subst e
    simp [bI] at h
    exact h
  · refine ⟨vl 2 _ (by omega) (by omega), vl 2 _ (by omega) (by omega), ?_⟩
    rw [k2, t2, hx]
    have hqa := qu_all _ (hu a) _ (hu b) _ hq.2 hq.1
    have e1 : decide (a ≠ b) = true := by simp [e]
    rw [e1, Bool.true_and] at h
    unfold wpX9_in
    by_cases c1 : (nI (Punk P a) - nI (Punk P b)) < (1 - nI (Pq P))
    · rw [if_pos c1]
      show if (0 : Int32) = 0 then K 1 else K 0
      rw [if_pos rfl]
      rw [decide_eq_true (hqa.mp (Or.inl c1))] at h; exact h
    · rw [if_neg c1]
      by_cases c2 : (nI (Pq P) - 1) < (nI (Punk P a) - nI (Punk P b))
      · rw [if_pos c2]
        show if (0 : Int32) = 0 then K 1 else K 0
        rw [if_pos rfl]
        rw [decide_eq_true (hqa.mp (Or.inr c2))] at h; exact h
      · rw [if_neg c2]
        show if (1 : Int32) = 0 then K 1 else K 0
        rw [if_neg (by decide)]
        rw [decide_eq_false (fun z => (hqa.mpr z).elim c1 c2)] at h; exact h
def lodB (st : Nat → Nat) : Nat := bsum (fun n => decide (0 < st n)) 8
theorem or_k : ∀ k, k < 8 → ∀ b, b < 2 ^ k → (nI b ||| (1 <<< (nI k &&& 31))) = nI (b + 2 ^ k) := or_bit
theorem or_0 (x : Int32) : x ||| 0 = x := b_ext (fun i hi => by rw [b_or, b_0]; simp)
theorem p_lodgers9 {s : Nat → Int32} {w : aW} {st : aT} {d l : Int32} {p : Nat} {K : Int32 → Prop} (hp : p < 6) (hv : V (st p)) (h : rS s w st d l) (hk : K (nI (lodB (st p)))) : wpX9_lodgers s (nI p) K := by
  unfold wpX9_lodgers
  intro J hJ
  refine kloop (J := fun k => J (nI (bsum (fun n => decide (0 < st p n)) k)) (nI k)) (N := 8) ?_ ?_
  · exact hJ _ _ (it_le (a := 8) (b := 8) (by omega) (by omega) (fun _ => hk) (fun q => absurd q (by omega)))
  · intro k hk8 hnx
    have hvk := hv k
    refine hJ _ _ (it_le (a := 8) (b := k) (by omega) (by omega) (fun q => absurd q (by omega)) (fun _ => ?_))
    rw [m8, nI_add, nI_clamp (by omega), h.1 p hp k hk8]
    refine ⟨vl _ _ (by omega) (by omega), ?_⟩
    intro J1 hJ1
    have e : bsum (fun n => decide (0 < st p n)) (k + 1) = bsum (fun n => decide (0 < st p n)) k + (if decide (0 < st p k) = true then 2 ^ k else 0) := rfl
    refine it_le (a := st p k) (b := 0) (by omega) (by omega) (fun q => ?_) (fun q => ?_)
    · refine hJ1 _ ?_
      intro x hx
      rw [if_neg (by simp; omega)] at e
      rw [hx, or_0, nI_1]
      rw [e.trans (Nat.add_zero _)] at hnx
      exact hnx
    · refine hJ1 _ ?_
      intro x hx
      rw [if_pos (by simp; omega)] at e
      rw [hx, or_k k hk8 _ (bsum_lt _ k), nI_1, ← e]
      exact hnx
theorem p_ones {x : Nat} {K : Int32 → Prop} (hx : x < 256) (hk : K (nI (nsum (fun n => bI (x.testBit n)) 8))) : wpX9_ones (nI x) K := by
  unfold wpX9_ones
  intro J hJ
  refine kloop (J := fun k => J (nI (nsum (fun n => bI (x.testBit n)) k)) (nI k)) (N := 8) ?_ ?_
  · exact hJ _ _ (it_le (a := 8) (b := 8) (by omega) (by omega) (fun _ => hk) (fun q => absurd q (by omega)))
  · intro k hk8 hnx
    refine hJ _ _ (it_le (a := 8) (b := k) (by omega) (by omega) (fun q => absurd q (by omega)) (fun _ => ?_))
    intro y hy
    rw [sh_bit hx hk8, nI_add] at hy
    rw [hy, nI_1]
    exact hnx
theorem cnt_lod (st : Nat → Nat) : nsum (fun n => bI ((lodB st).testBit n)) 8 = cntTo st 8 := by
  have h : ∀ k, k ≤ 8 → nsum (fun n => bI ((lodB st).testBit n)) k = cntTo st k := by
    intro k
    induction k with
    | zero => intro _; rfl
    | succ k ih =>
      intro hk
      show nsum _ k + bI _ = cntTo st k + _
      rw [ih (by omega)]
      unfold lodB
      rw [bsum_tb]
      congr 1
      by_cases z : st k = 0
      · simp [z, bI]
      · rw [if_neg z]
        simp [bI, show k < 8 by omega, show 0 < st k by omega]
  exact h 8 (Nat.le_refl _)
theorem cntTo_ext {st : Nat → Nat} {nn : Nat} (hz : Z nn st) (hnn : nn ≤ 8) : cntTo st 8 = cntTo st nn := by
  have h : ∀ b, nn ≤ b → cntTo st b = cntTo st nn := by
    intro b
    induction b with
    | zero => intro h; rw [show nn = 0 by omega]
    | succ b ih =>
      intro h
      rcases Nat.lt_or_ge b nn with q | q
      · rw [show nn = b + 1 by omega]
      · show cntTo st b + (if st b = 0 then 0 else 1) = _
        rw [if_pos (hz b q), ih q]; rfl
  exact h 8 hnn
theorem p_sumOf {s told : Nat → Int32} {row : Nat → Nat} {w : aW} {st : aT} {d l : Int32} {p c : Nat} {K : Int32 → Prop} (hc : c < 30) (ht : ∀ n, n < 8 → told (c + n) = nI (row n)) (hp : p < 6) (hv : V (st p)) (h : rS s w st d l) (hk : K (nI (sumL (st p) row 8))) : wpX9_sumOf told s (nI p) (nI c) K := by
  unfold wpX9_sumOf
  intro J hJ
  refine kloop (J := fun k => J (nI (sumL (st p) row k)) (nI k)) (N := 8) ?_ ?_
  · exact hJ _ _ (it_le (a := 8) (b := 8) (by omega) (by omega) (fun _ => hk) (fun q => absurd q (by omega)))
  · intro k hk8 hnx
    have hvk := hv k
    refine hJ _ _ (it_le (a := 8) (b := k) (by omega) (by omega) (fun q => absurd q (by omega)) (fun _ => ?_))
    rw [m8, nI_add, nI_clamp (by omega), h.1 p hp k hk8]
    refine ⟨vl _ _ (by omega) (by omega), ?_⟩
    intro J1 hJ1
    have e : sumL (st p) row (k + 1) = sumL (st p) row k + (if st p k = 0 then 0 else row k) := rfl
    refine it_le (a := st p k) (b := 0) (by omega) (by omega) (fun q => ?_) (fun q => ?_)
    · refine hJ1 _ ?_
      intro x hx
      rw [if_pos (by omega)] at e
      have z : nI (sumL (st p) row k) + 0 = nI (sumL (st p) row k) := nI_add _ 0
      rw [hx, z, nI_1]
      rw [e.trans (Nat.add_zero _)] at hnx
      exact hnx
    · rw [nI_add, nI_clamp (by omega), ht k hk8]
      refine ⟨vl _ _ (by omega) (by omega), ?_⟩
      refine hJ1 _ ?_
      intro x hx
      rw [if_neg (by omega)] at e
      rw [hx, nI_add, nI_1, ← e]
      exact hnx
