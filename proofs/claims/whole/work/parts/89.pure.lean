/-! pure: the text: items, the reference -/
def rB (b : Nat → Int32) (w : aW) : Prop := ∀ i, i < 6 → ∀ j, j < 6 → b (6 * i + j) = nI (wm w i j)
theorem p_i9 {a lo hi : Nat} {K : Int32 → Prop} (ha : a < 2 ^ 31) (h1 : lo < 2 ^ 31) (h2 : hi < 2 ^ 31) (hy : lo ≤ a ∧ a ≤ hi → K 1) (hn : ¬ (lo ≤ a ∧ a ≤ hi) → K 0) : wpX9_in (nI a) (nI lo) (nI hi) K := p_wn (K := K) ha h1 h2 hy hn
theorem p_i91 {a N : Nat} {K : Int32 → Prop} (ha : a < 2 ^ 31) (h2 : N < 2 ^ 31) (hy : a < N → K 1) (hn : ¬ a < N → K 0) : wpX9_in (nI a) 0 (nI N - 1) K := p_wn1 (K := K) ha h2 hy hn
theorem p_personOf {P : aP} {dr : Nat → Int32} {a b f : Nat} {K : (Nat → Int32) → Prop} (hT : rT P dr) (h6 : Pnp P < 6) (hb : b < 100) (hK : ∀ d', rT (tlP P a b f) d' → K d') (ha : a < 100) : wpX9_personOf dr (nI a) (nI b) (nI f) K := by
  obtain ⟨t0, t1, t2, t3, t9, t15, t21, t29⟩ := hT
  unfold wpX9_personOf
  refine ⟨vl 0 _ (by omega) (by omega), ?_⟩
  intro x1 e1
  rw [k0, t0] at e1
  subst e1
  rw [a3, a9, show (15 : Int32) + nI (Pnp P) = nI (15 + Pnp P) from nI_add 15 _, nI_clamp (by omega), nI_clamp (by omega), nI_clamp (by omega), k0]
  refine ⟨vl _ _ (by omega) (by omega), ?_⟩
  intro J39 h39
  have go : ∀ v2, v2 = nI (if a = 1 then 2 * b else b) → J39 v2 := by
    intro v2 e2
    subst e2
    refine h39 _ ⟨vl _ _ (by omega) (by omega), vl _ _ (by omega) (by omega), vl 0 _ (by omega) (by omega), vl 0 _ (by omega) (by omega), hK _ ?_⟩
    refine ⟨?_, ?_, ?_, fun p hp => ?_, fun p hp => ?_, fun p hp => ?_, fun n hn => ?_, fun n hn => ?_⟩
    · rw [pk_us, pk_un (by omega), pk_un (by omega), pk_un (by omega), t0, nI_1]; rfl
    · rw [pk_un (by omega), pk_un (by omega), pk_un (by omega), pk_un (by omega)]; exact t1
    · rw [pk_un (by omega), pk_un (by omega), pk_un (by omega), pk_un (by omega)]; exact t2
    · rw [pk_un (by omega), pk_un (by omega), pk_un (by omega)]
      show _ = nI (uA (Pkind P) (Pnp P) a p)
      by_cases e : p = Pnp P
      · subst e; rw [pk_us, uA_s]
      · rw [pk_un (by omega), uA_n _ _ e]; exact t3 p hp
    · rw [pk_un (by omega), pk_un (by omega)]
      show _ = nI (uA (Pbed P) (Pnp P) (if a = 1 then 2 * b else b) p)
      by_cases e : p = Pnp P
      · subst e; rw [pk_us, uA_s]
      · rw [pk_un (by omega), pk_un (by omega), uA_n _ _ e]; exact t9 p hp
    · rw [pk_un (by omega)]
      show _ = nI (uA (Pfood P) (Pnp P) f p)
      by_cases e : p = Pnp P
      · subst e; rw [pk_us, uA_s]
      · rw [pk_un (by omega), pk_un (by omega), pk_un (by omega), uA_n _ _ e]; exact t15 p hp
    · rw [pk_un (by omega), pk_un (by omega), pk_un (by omega), pk_un (by omega)]; exact t21 n hn
    · rw [pk_un (by omega), pk_un (by omega), pk_un (by omega), pk_un (by omega)]; exact t29 n hn
  refine it_eq (b := 1) (by omega) (by omega) (fun z => go _ ?_) (fun z => go _ ?_)
  · rw [if_pos z]; exact pk_mul 2 b
  · rw [if_neg z]
theorem p_nameOf {P : aP} {dr : Nat → Int32} {a b : Nat} {K : (Nat → Int32) → Prop} (hT : rT P dr) (h8 : Pnn P < 8) (hK : ∀ d', rT (tlN P a b) d' → K d') : wpX9_nameOf dr (nI a) (nI b) K := by
  obtain ⟨t0, t1, t2, t3, t9, t15, t21, t29⟩ := hT
  unfold wpX9_nameOf
  refine ⟨vl 1 _ (by omega) (by omega), ?_⟩
  intro x1 e1
  rw [k1, t1] at e1
  subst e1
  rw [a21, show (29 : Int32) + nI (Pnn P) = nI (29 + Pnn P) from nI_add 29 _, nI_clamp (by omega), nI_clamp (by omega), k1]
  refine ⟨vl _ _ (by omega) (by omega), vl _ _ (by omega) (by omega), vl 1 _ (by omega) (by omega), vl 1 _ (by omega) (by omega), hK _ ?_⟩
  refine ⟨?_, ?_, ?_, fun p hp => ?_, fun p hp => ?_, fun p hp => ?_, fun n hn => ?_, fun n hn => ?_⟩
  · rw [pk_un (by omega), pk_un (by omega), pk_un (by omega)]; exact t0
  · rw [pk_us, pk_un (by omega), pk_un (by omega), t1, nI_1]; rfl
  · rw [pk_un (by omega), pk_un (by omega), pk_un (by omega)]; exact t2
  · rw [pk_un (by omega), pk_un (by omega), pk_un (by omega)]; exact t3 p hp
  · rw [pk_un (by omega), pk_un (by omega), pk_un (by omega)]; exact t9 p hp
  · rw [pk_un (by omega), pk_un (by omega), pk_un (by omega)]; exact t15 p hp
  · rw [pk_un (by omega), pk_un (by omega)]
    show _ = nI (uA (Punk P) (Pnn P) a n)
    by_cases e : n = Pnn P
    · subst e; rw [pk_us, uA_s]
    · rw [pk_un (by omega), uA_n _ _ e]; exact t21 n hn
  · rw [pk_un (by omega)]
    show _ = nI (uA (Peat P) (Pnn P) b n)
    by_cases e : n = Pnn P
    · subst e; rw [pk_us, uA_s]
    · rw [pk_un (by omega), pk_un (by omega), uA_n _ _ e]; exact t29 n hn
theorem p_wordOf {w : aW} {bg : Nat → Int32} {i j n : Nat} {K : Int32 → (Nat → Int32) → Prop} (hB : rB bg w) (hi : i < 6) (hj : j < 6) (hn : n < 8) (hK : ∀ b', rB b' (wf w i j n) → K (nI (tot (wf w i j n))) b') : wpX9_wordOf (nI (tot w)) bg (nI i) (nI j) (nI n) K := by
  unfold wpX9_wordOf
  rw [m6, nI_add, nI_clamp (by omega), pk_us]
  have hb : rB (upd bg (6 * i + j) (bg (6 * i + j) ^^^ (1 <<< (nI n &&& 31)))) (wf w i j n) := by
    intro a ha b hb
    by_cases e : a = i ∧ b = j
    · obtain ⟨e1, e2⟩ := e
      subst e1; subst e2
      rw [pk_us, hB a ha b hb, sh1 n hn, nx_xor, wm_wf w a b hn]
    · rw [pk_un (by omega), wm_wf_o w n e]; exact hB a ha b hb
  refine ⟨vl _ _ (by omega) (by omega), vl _ _ (by omega) (by omega), vl _ _ (by omega) (by omega), ?_⟩
  intro J46 h46
  have ebit : ((bg (6 * i + j) ^^^ (1 <<< (nI n &&& 31))) >>> (nI n &&& 31)) &&& 1 = nI (bI (!(w i j n))) := by
    have := hb i hi j hj
    rw [pk_us] at this
    rw [this, sh_bit (wm_lt _ _ _) hn, wm_tb _ _ _ hn]
    unfold wf
    rw [if_pos ⟨rfl, rfl, rfl⟩]
  rw [ebit]
  cases hw : w i j n with
  | false =>
    rw [if_pos (show nI (bI (!false)) = 1 from rfl)]
    refine h46 _ ?_
    rw [nI_1, ← tot_f w hi hj hn hw]
    exact hK _ hb
  | true =>
    rw [if_neg (show ¬ nI (bI (!true)) = 1 by decide)]
    refine h46 _ ?_
    rw [← tot_t w hi hj hn hw, pk_m1]
    exact hK _ hb
