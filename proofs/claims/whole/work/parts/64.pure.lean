/-! pure: pass, say, mend, see, write -/
theorem c_push8 {held next : Int32} {rows : Nat → Nat → Int64} {stt : Nat → Nat → Int32} {days nob : Nat → Int32} {c : Nat} {F : Nat → aS} {qr : Nat → Int64} {qf : Nat → Int32} {qd ql : Int32} {S : aS} {K : Int32 → Int32 → (Nat → Int32) → (Nat → Int32) → (Nat → Nat → Int64) → (Nat → Nat → Int32) → Prop}
    (h : rPile 8 held next rows stt days nob c F) (hq : rStd qr qf qd ql S) (hK : ∀ a b e f g i, rPile 8 a b g i e f (pushC 8 c) (pushF S F) → K a b e f g i) :
    ∃ k, k < 8 ∧ wpX2_push8 k held next rows stt days nob qd ql qr qf K := by
  obtain ⟨k, hk, h2⟩ := p_push (N := 8) (by omega) (K := K) h hq hK
  exact ⟨k, hk, h2⟩
theorem c_pass0 {P : aP} {np nn q held next nd nl hk hb hf : Int32} {hw : Int64} {hs kinds beds foods pu pe f days nob : Nat → Int32} {rows : Nat → Int64} {br : Nat → Nat → Int64} {bs : Nat → Nat → Int32} {x : Int32} {K : Int32 → Int32 → Int32 → Int32 → Int32 → (Nat → Int32) → Int32 → Int32 → Int32 → Int64 → (Nat → Int32) → (Nat → Nat → Int64) → (Nat → Nat → Int32) → (Nat → Int32) → (Nat → Int32) → Prop}
    (hx : rx 1 20 x = none) (hK : K (-1) held next nd nl f hk hb hf hw hs br bs days nob) : wpX8_pass held next nd nl rows f np nn q kinds beds foods pu pe hk hb hf hw hs br bs days nob x K := by
  unfold wpX8_pass
  exact p_within (lo := 1) (hi := 20) (by omega) (by omega) (fun n e1 => by rw [hx] at e1; cases e1) (fun _ => i0 hK)
theorem c_pass1 {P : aP} {w : aW} {st : aT} {c n : Nat} {F : Nat → aS} {np nn q held next nd nl hk hb hf : Int32} {hw : Int64} {hs kinds beds foods pu pe f days nob : Nat → Int32} {rows : Nat → Int64} {br : Nat → Nat → Int64} {bs : Nat → Nat → Int32} {x : Int32} {K : Int32 → Int32 → Int32 → Int32 → Int32 → (Nat → Int32) → Int32 → Int32 → Int32 → Int64 → (Nat → Int32) → (Nat → Nat → Int64) → (Nat → Nat → Int32) → (Nat → Int32) → (Nat → Int32) → Prop}
    (hP : PV1 P) (hR : rPt P np nn q kinds beds foods pu pe) (hwr : rW rows w) (h : rD f st) (hS : SV P w st) (hx : rx 1 20 x = some n) (hp : rPile 8 held next br bs days nob c F)
    (hK : ∀ held' next' f' a b e g g2 br' bs' days' nob', rPile 8 held' next' br' bs' days' nob' (pushC 8 c) (pushF (w, st, nd, nl) F) → rD f' (daysT P w st n) → K (nd + nI n) held' next' (nd + nI n) (nl + nI (lostN P w st n)) f' a b e g g2 br' bs' days' nob') : wpX8_pass held next nd nl rows f np nn q kinds beds foods pu pe hk hb hf hw hs br bs days nob x K := by
  unfold wpX8_pass
  refine p_within (lo := 1) (hi := 20) (by omega) (by omega) (fun m e1 => i1 ?_) (fun e1 => by rw [hx] at e1; cases e1)
  rw [hx] at e1
  cases e1
  have h1 := rx_some hx
  refine c_push8 hp (S := (w, st, nd, nl)) ⟨hwr, h, rfl, rfl⟩ ?_
  intro a b e g i j hp'
  rw [h1.2.2]
  refine p_opassDays hP.1 hR (by omega) hS.2.1 hS.2.2.1 hwr h ?_
  intro a1 b1 c1 e1 g1 g2 hg2
  exact hK _ _ _ _ _ _ _ _ _ _ _ _ hp' hg2
theorem r_pass0 {told s past : Nat → Int32} {kn wo : Int32} {x : Int32} {K : Int32 → Int32 → Int32 → (Nat → Int32) → (Nat → Int32) → Prop} (hx : rx 1 20 x = none) (hK : K (-1) kn wo s past) : wpX9_pass kn wo told s past x K := by
  unfold wpX9_pass
  exact p_in9 (lo := 1) (hi := 20) (by omega) (by omega) (fun n e1 => by rw [hx] at e1; cases e1) (fun _ => i0 hK)
theorem r_pass1 {P : aP} {w : aW} {st : aT} {c n : Nat} {F : Nat → aS} {told s past : Nat → Int32} {d l wo : Int32} {x : Int32} {K : Int32 → Int32 → Int32 → (Nat → Int32) → (Nat → Int32) → Prop} (hP : PV1 P) (hT : rT P told) (h : rS s w st d l) (hS : SV P w st) (hx : rx 1 20 x = some n) (hp : rIm 8 past c F)
    (hK : ∀ wo' s' past', rIm 8 past' (pushC 8 c) (pushF (w, st, d, l) F) → rS s' w (daysT P w st n) (d + nI n) (l + nI (lostN P w st n)) → K (d + nI n) (nI (pushC 8 c)) wo' s' past') : wpX9_pass (nI c) wo told s past x K := by
  unfold wpX9_pass
  refine p_in9 (lo := 1) (hi := 20) (by omega) (by omega) (fun m e1 => i1 ?_) (fun e1 => by rw [hx] at e1; cases e1)
  rw [hx] at e1
  cases e1
  have h1 := rx_some hx
  refine p_keeps (S := (w, st, d, l)) hp h ?_
  intro g hg
  rw [h1.2.2]
  intro J hJ
  refine p_loopDays (n := n) (J := J) hP hT hS (by omega) ?_ ?_ h wo
  · intro wo2 s2 hs2
    refine hJ _ _ _ (it_le (by omega) (by omega) (fun _ => ?_) (fun q => absurd q (by omega)))
    rw [k84, hs2.2.2.1]
    exact ⟨vl 84 _ (by omega) (by omega), hK _ _ _ hg hs2⟩
  · intro k wo2 s2 hkn hs2
    exact hJ _ _ _ (it_le (by omega) (by omega) (fun q => absurd q (by omega)) (fun _ => hs2))
/-! a word more or less -/
theorem nsum_up {f g : Nat → Nat} {k a : Nat} (ha : a < k) (h1 : g a = f a + 1) (h2 : ∀ j, j < k → j ≠ a → g j = f j) : nsum g k = nsum f k + 1 := by
  induction k with
  | zero => omega
  | succ k ih =>
    show nsum g k + g k = nsum f k + f k + 1
    by_cases e : a = k
    · subst e
      rw [nsum_congr (fun j hj => h2 j (by omega) (by omega)), h1]
      omega
    · rw [ih (by omega) (fun j hj hn => h2 j (by omega) hn), h2 k (by omega) (fun z => e z.symm)]
      omega
theorem wf_wf (w : aW) (i j n : Nat) : wf (wf w i j n) i j n = w := by
  funext a b c
  unfold wf
  by_cases e : a = i ∧ b = j ∧ c = n
  · rw [if_pos e, if_pos e, Bool.not_not]
  · rw [if_neg e, if_neg e]
theorem tot_f (w : aW) {i j n : Nat} (hi : i < 6) (hj : j < 6) (hn : n < 8) (hw : w i j n = false) : tot (wf w i j n) = tot w + 1 := by
  rw [tot_eq, tot_eq]
  refine nsum_up (a := 6 * i + j) (by omega) ?_ ?_
  · rw [show (6 * i + j) / 6 = i by omega, show (6 * i + j) % 6 = j by omega]
    refine nsum_up (a := n) hn ?_ ?_
    · show bI (wf w i j n i j n) = bI (w i j n) + 1
      unfold wf
      rw [if_pos ⟨rfl, rfl, rfl⟩, hw]
      rfl
    · intro c _ hc
      show bI (wf w i j n i j c) = bI (w i j c)
      unfold wf
      rw [if_neg (fun z => hc z.2.2)]
  · intro k hk hne
    refine nsum_congr (fun c _ => ?_)
    unfold wf
    rw [if_neg (fun z => hne (by omega))]
theorem tot_t (w : aW) {i j n : Nat} (hi : i < 6) (hj : j < 6) (hn : n < 8) (hw : w i j n = true) : tot (wf w i j n) + 1 = tot w := by
  have e : wf w i j n i j n = false := by unfold wf; rw [if_pos ⟨rfl, rfl, rfl⟩, hw]; rfl
  rw [← tot_f (wf w i j n) hi hj hn e, wf_wf]
theorem WV.flip {P : aP} {w : aW} (h : WV P w) {i j n : Nat} (h6 : Pnp P ≤ 6) (h8 : Pnn P ≤ 8) (hi : i < Pnp P) (hj : j < Pnp P) (hij : i ≠ j) (hn : n < Pnn P) (ht : w i j n = true ∨ tot w < 12) : WV P (wf w i j n) := by
  refine ⟨fun a b c hab => ?_, ?_⟩
  · unfold wf at hab
    split at hab
    · rename_i e
      obtain ⟨e1, e2, e3⟩ := e
      subst e1; subst e2; subst e3
      exact ⟨hi, hj, hij, hn⟩
    · exact h.1 a b c hab
  · cases hw : w i j n with
    | true =>
      have := tot_t w (show i < 6 by omega) (show j < 6 by omega) (show n < 8 by omega) hw
      have := h.2
      omega
    | false =>
      have := tot_f w (show i < 6 by omega) (show j < 6 by omega) (show n < 8 by omega) hw
      rcases ht with z | z
      · rw [hw] at z; cases z
      · omega
theorem SV.flip {P : aP} {w : aW} {st : aT} (h : SV P w st) {i j n : Nat} (h6 : Pnp P ≤ 6) (h8 : Pnn P ≤ 8) (hi : i < Pnp P) (hj : j < Pnp P) (hij : i ≠ j) (hn : n < Pnn P) (ht : w i j n = true ∨ tot w < 12) : SV P (wf w i j n) st :=
  ⟨h.1.flip h6 h8 hi hj hij hn ht, h.2⟩
theorem wm_wf (w : aW) (i j : Nat) {n : Nat} (hn : n < 8) : wm (wf w i j n) i j = wm w i j ^^^ 2 ^ n := by
  symm
  refine bsum_eq (Nat.xor_lt_two_pow (wm_lt w i j) (Nat.pow_lt_pow_right (by decide) hn)) (fun b hb => ?_)
  rw [Nat.testBit_xor, Nat.testBit_two_pow]
  unfold wm wf
  rw [bsum_tb]
  by_cases e : n = b
  · subst e; simp [hn]
  · simp [hb, e, Ne.symm e]
theorem wm_wf_o (w : aW) {i j a b : Nat} (n : Nat) (h : ¬ (a = i ∧ b = j)) : wm (wf w i j n) a b = wm w a b := by
  unfold wm
  refine bsum_congr (fun c _ => ?_)
  unfold wf
  rw [if_neg (fun z => h ⟨z.1, z.2.1⟩)]
theorem sh1 : ∀ n, n < 8 → (1 : Int32) <<< (nI n &&& 31) = nI (2 ^ n) := by decide +kernel
theorem rS.word {s : Nat → Int32} {w : aW} {st : aT} {d l : Int32} (h : rS s w st d l) {i j n : Nat} (hi : i < 6) (hj : j < 6) (hn : n < 8) : rS (upd s (48 + 6 * i + j) (s (48 + 6 * i + j) ^^^ (1 <<< (nI n &&& 31)))) (wf w i j n) st d l := by
  refine ⟨fun p hp m hm => ?_, fun a ha b hb => ?_, ?_, ?_⟩
  · rw [pk_un (by omega)]; exact h.1 p hp m hm
  · by_cases e : a = i ∧ b = j
    · obtain ⟨e1, e2⟩ := e
      subst e1; subst e2
      rw [pk_us, h.2.1 a ha b hb, sh1 n hn, nx_xor, wm_wf w a b hn]
    · rw [pk_un (by omega), wm_wf_o w n e]; exact h.2.1 a ha b hb
  · rw [pk_un (by omega)]; exact h.2.2.1
  · rw [pk_un (by omega)]; exact h.2.2.2
def aSay (w : aW) (q : Nat × Nat × Nat) : Int32 := nI (bI (!(w q.1 q.2.1 q.2.2)))
theorem c_say0 {P : aP} {held next nd nl : Int32} {f days nob : Nat → Int32} {rows : Nat → Int64} {br : Nat → Nat → Int64} {bs : Nat → Nat → Int32} {x y z : Int32} {K : Int32 → Int32 → Int32 → (Nat → Int64) → (Nat → Nat → Int64) → (Nat → Nat → Int32) → (Nat → Int32) → (Nat → Int32) → Prop} (hP : PV1 P) (hx : iW P x y z = none) (hK : K (-1) held next rows br bs days nob) : wpX8_say held next nd nl rows f (nI (Pnp P)) (nI (Pnn P)) br bs days nob x y z K := by
  unfold wpX8_say
  exact p_isWord hP (fun q e => by rw [hx] at e; cases e) (fun _ => i0 hK)
theorem c_say1 {P : aP} {w : aW} {q : Nat × Nat × Nat} {held next nd nl : Int32} {f days nob : Nat → Int32} {rows : Nat → Int64} {br : Nat → Nat → Int64} {bs : Nat → Nat → Int32} {x y z : Int32} {K : Int32 → Int32 → Int32 → (Nat → Int64) → (Nat → Nat → Int64) → (Nat → Nat → Int32) → (Nat → Int32) → (Nat → Int32) → Prop} (hP : PV1 P) (hwr : rW rows w) (hx : iW P x y z = some q) (hf : ¬ (w q.1 q.2.1 q.2.2 = true ∨ tot w < 12)) (hK : K (-3) held next rows br bs days nob) : wpX8_say held next nd nl rows f (nI (Pnp P)) (nI (Pnn P)) br bs days nob x y z K := by
  have hnp := hP.1.1
  have hnn := hP.1.2.1
  unfold wpX8_say
  refine p_isWord hP (fun q' e => i1 ?_) (fun e => by rw [hx] at e; cases e)
  have hq := iW_s hP hx
  rw [hq.2.2.2.2.1, hq.2.2.2.2.2.1, hq.2.2.2.2.2.2]
  refine p_canFlip hwr (by omega) (by omega) (by omega) ?_
  have e1 : (w q.1 q.2.1 q.2.2 || decide (tot w < 12)) = false := by
    cases hw : w q.1 q.2.1 q.2.2 with
    | true => exact absurd (Or.inl hw) hf
    | false => rw [Bool.false_or]; exact decide_eq_false (fun z => hf (Or.inr z))
  rw [e1]
  exact i0 hK
theorem c_say2 {P : aP} {w : aW} {st : aT} {q : Nat × Nat × Nat} {c : Nat} {F : Nat → aS} {held next nd nl : Int32} {f days nob : Nat → Int32} {rows : Nat → Int64} {br : Nat → Nat → Int64} {bs : Nat → Nat → Int32} {x y z : Int32} {K : Int32 → Int32 → Int32 → (Nat → Int64) → (Nat → Nat → Int64) → (Nat → Nat → Int32) → (Nat → Int32) → (Nat → Int32) → Prop} (hP : PV1 P) (hwr : rW rows w) (h : rD f st) (hx : iW P x y z = some q) (hf : w q.1 q.2.1 q.2.2 = true ∨ tot w < 12) (hp : rPile 8 held next br bs days nob c F)
    (hK : ∀ held' next' rows' br' bs' days' nob', rPile 8 held' next' br' bs' days' nob' (pushC 8 c) (pushF (w, st, nd, nl) F) → rW rows' (wf w q.1 q.2.1 q.2.2) → K (aSay w q) held' next' rows' br' bs' days' nob') : wpX8_say held next nd nl rows f (nI (Pnp P)) (nI (Pnn P)) br bs days nob x y z K := by
  have hnp := hP.1.1
  have hnn := hP.1.2.1
  unfold wpX8_say
  refine p_isWord hP (fun q' e => i1 ?_) (fun e => by rw [hx] at e; cases e)
  have hq := iW_s hP hx
  rw [hq.2.2.2.2.1, hq.2.2.2.2.2.1, hq.2.2.2.2.2.2]
  refine p_canFlip hwr (by omega) (by omega) (by omega) ?_
  have e1 : (w q.1 q.2.1 q.2.2 || decide (tot w < 12)) = true := by
    rcases hf with z | z
    · rw [z]; rfl
    · rw [decide_eq_true z, Bool.or_true]
  rw [e1]
  refine i1 ?_
  refine c_push8 hp (S := (w, st, nd, nl)) ⟨hwr, h, rfl, rfl⟩ ?_
  intro a b e g i j hp'
  refine p_flip hwr (by omega) (by omega) (by omega) ?_
  intro rows' hr'
  refine p_has hr' (by omega) (by omega) (by omega) ?_
  have hk2 := hK _ _ _ _ _ _ _ hp' hr'
  unfold aSay at hk2
  have e2 : wf w q.1 q.2.1 q.2.2 q.1 q.2.1 q.2.2 = !(w q.1 q.2.1 q.2.2) := by unfold wf; rw [if_pos ⟨rfl, rfl, rfl⟩]
  rw [e2]
  cases hb : (!(w q.1 q.2.1 q.2.2)) with
  | true => rw [hb] at hk2; exact i1 hk2
  | false => rw [hb] at hk2; exact i0 hk2
theorem iW_e {P : aP} {x y z : Int32} {q : Nat × Nat} {n : Nat} (h1 : iPP P x y = some q) (h2 : iN P z = some n) : iW P x y z = some (q.1, q.2, n) := by unfold iW; rw [h1, h2]
theorem iW_n1 {P : aP} {x y z : Int32} (h : iPP P x y = none) : iW P x y z = none := by unfold iW; rw [h]
theorem iW_n2 {P : aP} {x y z : Int32} (h : iN P z = none) : iW P x y z = none := by
  unfold iW; rw [h]
  cases iPP P x y <;> rfl
theorem r_say {P : aP} {w : aW} {st : aT} {c : Nat} {F : Nat → aS} {told s past : Nat → Int32} {d l : Int32} {x y z : Int32} {K : Int32 → Int32 → (Nat → Int32) → (Nat → Int32) → Prop} (hP : PV1 P) (hT : rT P told) (h : rS s w st d l) (hS : SV P w st) (hp : rIm 8 past c F)
    (h0 : iW P x y z = none → K (-1) (nI c) s past)
    (h1 : ∀ q, iW P x y z = some q → ¬ (w q.1 q.2.1 q.2.2 = true ∨ tot w < 12) → K (-3) (nI c) s past)
    (h2 : ∀ q, iW P x y z = some q → (w q.1 q.2.1 q.2.2 = true ∨ tot w < 12) → ∀ s' past', rIm 8 past' (pushC 8 c) (pushF (w, st, d, l) F) → rS s' (wf w q.1 q.2.1 q.2.2) st d l → K (aSay w q) (nI (pushC 8 c)) s' past') : wpX9_say (nI c) told s past x y z K := by
  have hnp := hP.1.1
  have hnn := hP.1.2.1
  unfold wpX9_say
  refine p_areTwo hP hT (fun q e1 => i1 (p_isName9 hP hT (fun n e2 => i1 ?_) (fun e2 => i0 (h0 (iW_n2 e2))))) (fun e1 => i0 (h0 (iW_n1 e1)))
  have hq := iPP_s hP e1
  have hn := rx_some e2
  have hn1 := hP.2.2
  have hn8 : n < 8 := by omega
  have e := iW_e e1 e2
  rw [hq.2.2.2.1, hq.2.2.2.2, hn.2.2]
  intro k hk
  rw [m6, a48, nI_add] at hk
  subst hk
  rw [nI_clamp (by omega)]
  refine ⟨vl _ _ (by omega) (by omega), ?_⟩
  intro J hJ
  have hbit : ((s (48 + 6 * q.1 + q.2)) >>> (nI n &&& 31)) &&& 1 = nI (bI (w q.1 q.2 n)) := by
    rw [h.2.1 q.1 (by omega) q.2 (by omega), sh_bit (wm_lt w q.1 q.2) hn8, wm_tb w q.1 q.2 hn8]
  have go : (w q.1 q.2 n = true ∨ tot w < 12) → J := by
    intro hf
    refine hJ ?_
    refine p_keeps (S := (w, st, d, l)) hp h ?_
    intro g hg
    have r := h.word (show q.1 < 6 by omega) (show q.2 < 6 by omega) hn8
    have hk2 := h2 _ e hf _ _ hg r
    refine ⟨vl _ _ (by omega) (by omega), vl _ _ (by omega) (by omega), vl _ _ (by omega) (by omega), ?_⟩
    have hb2 : ((upd s (48 + 6 * q.1 + q.2) (s (48 + 6 * q.1 + q.2) ^^^ (1 <<< (nI n &&& 31)))) (48 + 6 * q.1 + q.2) >>> (nI n &&& 31)) &&& 1 = aSay w (q.1, q.2, n) := by
      rw [r.2.1 q.1 (by omega) q.2 (by omega), sh_bit (wm_lt _ q.1 q.2) hn8, wm_tb _ q.1 q.2 hn8]
      unfold aSay wf
      rw [if_pos ⟨rfl, rfl, rfl⟩]
    rw [hb2]
    exact hk2
  rw [hbit]
  cases hw : w q.1 q.2 n with
  | true =>
    rw [if_neg (show ¬ nI (bI true) = 0 by decide)]
    exact go (Or.inl hw)
  | false =>
    rw [if_pos (show nI (bI false) = 0 from rfl)]
    refine p_allWords h ?_
    have ht := hS.1.2
    refine it_eq (b := 12) (by omega) (by omega) (fun z => ?_) (fun z => go (Or.inr (by omega)))
    refine h1 _ e ?_
    rintro (z2 | z2)
    · dsimp only at z2; rw [hw] at z2; cases z2
    · omega
/-! mend -/
def thinV (st : Nat → Nat) : Nat → Nat := fun n => if n < 8 then st n - 1 else st n
def aMend (st : Nat → Nat) : Int32 := nI (cntTo st 8 - cntTo (thinV st) 8)
theorem cnt_thin (st : Nat → Nat) : ∀ k, cntTo (thinV st) k ≤ cntTo st k := by
  intro k
  induction k with
  | zero => exact Nat.le_refl 0
  | succ k ih =>
    show cntTo (thinV st) k + (if thinV st k = 0 then 0 else 1) ≤ cntTo st k + (if st k = 0 then 0 else 1)
    by_cases e : st k = 0
    · have : thinV st k = 0 := by unfold thinV; split <;> omega
      rw [if_pos this, if_pos e]; omega
    · rw [if_neg e]
      split <;> omega
theorem lodT_uT (st : aT) {p : Nat} (hp : p < 6) (v : Nat → Nat) : ∃ r, lodT st = r + cntTo (st p) 8 ∧ lodT (uT st p v) = r + cntTo v 8 := by
  have e : ∀ s : aT, lodT s = nsum (fun p => cntTo (s p) 8) 6 := by
    intro s
    unfold lodT
    rw [show (48 : Nat) = 6 * 8 from rfl, nsum_mul]
    refine nsum_congr (fun p _ => ?_)
    rw [cnt_ns]
    refine nsum_congr (fun n hn => ?_)
    rw [show (8 * p + n) / 8 = p by omega, show (8 * p + n) % 8 = n by omega]
  have key : ∀ k, p < k → ∃ r, nsum (fun a => cntTo (st a) 8) k = r + cntTo (st p) 8 ∧ nsum (fun a => cntTo (uT st p v a) 8) k = r + cntTo v 8 := by
    intro k
    induction k with
    | zero => intro h; omega
    | succ k ih =>
      intro hk
      show ∃ r, nsum (fun a => cntTo (st a) 8) k + cntTo (st k) 8 = _ ∧ nsum (fun a => cntTo (uT st p v a) 8) k + cntTo (uT st p v k) 8 = _
      by_cases z : p = k
      · subst z
        refine ⟨nsum (fun a => cntTo (st a) 8) p, rfl, ?_⟩
        rw [uT_s, nsum_congr (fun a ha => by rw [uT_n st v (show a ≠ p by omega)])]
      · obtain ⟨r, h1, h2⟩ := ih (by omega)
        refine ⟨r + cntTo (st k) 8, by rw [h1]; omega, ?_⟩
        rw [h2, uT_n st v (show k ≠ p by omega)]
        omega
  rw [e, e]
  exact key 6 hp
theorem SV.thin {P : aP} {w : aW} {st : aT} (h : SV P w st) {p : Nat} : SV P w (uT st p (thinV (st p))) := by
  obtain ⟨h1, h2, h3, h4, h5⟩ := h
  have tz : ∀ n, st p n = 0 → thinV (st p) n = 0 := fun n hn => by unfold thinV; split <;> omega
  refine ⟨h1, fun a => ?_, fun a => ?_, fun a ha n => ?_, fun a ha n => ?_⟩
  · by_cases e : a = p
    · subst e; rw [uT_s]
      intro k
      have := h2 a k
      unfold thinV
      split <;> omega
    · rw [uT_n _ _ e]; exact h2 a
  · by_cases e : a = p
    · subst e; rw [uT_s]; exact fun k hk => tz k (h3 a k hk)
    · rw [uT_n _ _ e]; exact h3 a
  · by_cases e : a = p
    · subst e; rw [uT_s]; exact tz n (h4 a ha n)
    · rw [uT_n _ _ e]; exact h4 a ha n
  · by_cases e : a = p
    · subst e; rw [uT_s]; exact tz n (h5 a ha n)
    · rw [uT_n _ _ e]; exact h5 a ha n
theorem c_mend0 {P : aP} {held next nd nl : Int32} {f days nob : Nat → Int32} {rows : Nat → Int64} {br : Nat → Nat → Int64} {bs : Nat → Nat → Int32} {x : Int32} {K : Int32 → Int32 → Int32 → (Nat → Int32) → (Nat → Nat → Int64) → (Nat → Nat → Int32) → (Nat → Int32) → (Nat → Int32) → Prop} (hP : PV1 P) (hx : iP P x = none) (hK : K (-1) held next f br bs days nob) : wpX8_mend held next nd nl rows f (nI (Pnp P)) br bs days nob x K := by
  unfold wpX8_mend
  exact p_isPerson hP (fun q e => by rw [hx] at e; cases e) (fun _ => i0 hK)
theorem c_mend1 {P : aP} {w : aW} {st : aT} {p : Nat} {c : Nat} {F : Nat → aS} {held next nd nl : Int32} {f days nob : Nat → Int32} {rows : Nat → Int64} {br : Nat → Nat → Int64} {bs : Nat → Nat → Int32} {x : Int32} {K : Int32 → Int32 → Int32 → (Nat → Int32) → (Nat → Nat → Int64) → (Nat → Nat → Int32) → (Nat → Int32) → (Nat → Int32) → Prop} (hP : PV1 P) (hwr : rW rows w) (h : rD f st) (hv : ∀ p, V (st p)) (hx : iP P x = some p) (hp : rPile 8 held next br bs days nob c F)
    (hK : ∀ held' next' f' br' bs' days' nob', rPile 8 held' next' br' bs' days' nob' (pushC 8 c) (pushF (w, st, nd, nl) F) → rD f' (uT st p (thinV (st p))) → K (aMend (st p)) held' next' f' br' bs' days' nob') : wpX8_mend held next nd nl rows f (nI (Pnp P)) br bs days nob x K := by
  have hnp := hP.1.1
  have hn1 := hP.2.1
  unfold wpX8_mend
  refine p_isPerson hP (fun q' e => i1 ?_) (fun e => by rw [hx] at e; cases e)
  have hq := rx_some hx
  rw [hq.2.2]
  refine c_push8 hp (S := (w, st, nd, nl)) ⟨hwr, h, rfl, rfl⟩ ?_
  intro a b e g i j hp'
  refine p_lodgings hv h ?_
  refine p_thinAll (hv p) (by omega) h ?_
  intro g2 hg2
  have hv2 : ∀ a, V (uT st p (thinV (st p)) a) := by
    intro a
    by_cases e : a = p
    · subst e; rw [uT_s]
      intro k
      have := hv a k
      unfold thinV
      split <;> omega
    · rw [uT_n _ _ e]; exact hv a
  refine p_lodgings hv2 hg2 ?_
  obtain ⟨r, e1, e2⟩ := lodT_uT st (show p < 6 by omega) (thinV (st p))
  have hc := cnt_thin (st p) 8
  have ee : nI (lodT st) - nI (lodT (uT st p (thinV (st p)))) = aMend (st p) := by
    unfold aMend
    rw [pk_sub (by omega)]
    congr 1
    omega
  rw [ee]
  exact hK _ _ _ _ _ _ _ hp' hg2
theorem r_mend {P : aP} {w : aW} {st : aT} {c : Nat} {F : Nat → aS} {told s past : Nat → Int32} {d l : Int32} {x : Int32} {K : Int32 → Int32 → (Nat → Int32) → (Nat → Int32) → Prop} (hP : PV1 P) (hT : rT P told) (h : rS s w st d l) (hv : ∀ p, V (st p)) (hp : rIm 8 past c F)
    (h0 : iP P x = none → K (-1) (nI c) s past)
    (h1 : ∀ p, iP P x = some p → ∀ s' past', rIm 8 past' (pushC 8 c) (pushF (w, st, d, l) F) → rS s' w (uT st p (thinV (st p))) d l → K (aMend (st p)) (nI (pushC 8 c)) s' past') : wpX9_mend (nI c) told s past x K := by
  have hnp := hP.1.1
  have hn1 := hP.2.1
  unfold wpX9_mend
  refine p_isPerson9 hP hT (fun p e => i1 ?_) (fun e => i0 (h0 e))
  have hq := rx_some e
  have hp6 : p < 6 := by omega
  rw [hq.2.2]
  refine p_keeps (S := (w, st, d, l)) hp h ?_
  intro g hg
  refine p_lodgers9 hp6 (hv p) h ?_
  refine p_ones (bsum_lt _ 8) ?_
  rw [cnt_lod]
  intro J hJ
  suffices key : ∀ s', rS s' w (uT st p (fun n => if n < 0 then st p n - 1 else st p n)) d l → J (nI 0) s' by
    refine key s ?_
    have e : (fun n => if n < 0 then st p n - 1 else st p n) = st p := by funext n; rw [if_neg (by omega)]
    rw [e, uT_id]
    exact h
  refine kloop (J := fun k => ∀ s', rS s' w (uT st p (fun n => if n < k then st p n - 1 else st p n)) d l → J (nI k) s') (N := 8) ?_ ?_
  · intro s' hs'
    refine hJ _ _ (it_le (a := 8) (b := 8) (by omega) (by omega) (fun _ => ?_) (fun q => absurd q (by omega)))
    have hv2 : V (uT st p (thinV (st p)) p) := by
      rw [uT_s]
      intro k
      have := hv p k
      unfold thinV
      split <;> omega
    refine p_lodgers9 hp6 hv2 hs' ?_
    refine p_ones (bsum_lt _ 8) ?_
    rw [cnt_lod, uT_s, pk_sub (cnt_thin (st p) 8)]
    exact h1 p e _ _ hg hs'
  · intro k hk hnx s' hs'
    refine hJ _ _ (it_le (a := 8) (b := k) (by omega) (by omega) (fun q => absurd q (by omega)) (fun _ => ?_))
    have hvk : V (uT st p (fun n => if n < k then st p n - 1 else st p n) p) := by
      rw [uT_s]
      intro m
      have := hv p m
      dsimp only
      split <;> omega
    refine p_thins (b := 1) hp6 hk (by omega) hvk hs' ?_
    intro s2 hs2
    rw [uT_s, uT_uT] at hs2
    rw [nI_1]
    refine hnx s2 ?_
    have e0 : (if k < k then st p k - 1 else st p k) = st p k := if_neg (by omega)
    have e : uA (fun n => if n < k then st p n - 1 else st p n) k ((if k < k then st p k - 1 else st p k) - 1) = fun n => if n < k + 1 then st p n - 1 else st p n := by
      rw [e0]
      funext n
      unfold uA
      by_cases e : n = k
      · subst e; rw [if_pos rfl, if_pos (by omega)]
      · rw [if_neg e]
        dsimp only
        by_cases e2 : n < k
        · rw [if_pos e2, if_pos (by omega)]
        · rw [if_neg e2, if_neg (by omega)]
    rw [← e]
    exact hs2
