/-! pure: chance of the reference, 2 -/
theorem r_chanceA {P : aP} {told s held spoken : Nat → Int32} {w : aW} {st : aT} {d l wo : Int32} {p n x kk : Nat} {K : Int64 → Int32 → (Nat → Int32) → (Nat → Int32) → (Nat → Int32) → Prop} (hP : PV1 P) (hT : rT P told) (h : rS s w st d l) (hS : SV P w st) (hp : p < Pnp P) (hn : n < Pnn P) (hx : x ≤ 10) (hkk : kk ≤ 1)
    (hK : ∀ wo s' held' sp', rS s' w st d l → K (chV (cS P w st p n x) (10 ^ pop48 (wr w p)) kk) wo s' held' sp') : wpX9_chance wo told s held spoken (nI p) (nI n) (nI x) (nI kk) K := by
  have h6 := hP.1.1
  have h8 := hP.1.2.1
  have hp6 : p < 6 := by omega
  unfold wpX9_chance
  refine p_isPerson9 hP hT (fun j e1 => ?_) (fun e1 => by have := rx_no (by omega) (by omega) e1; omega)
  intro J36 h36
  refine i1 ?_
  refine p_isName9 hP hT (fun j e1 => i1 ?_) (fun e1 => by have := rx_no (by omega) (by omega) e1; omega)
  refine p_in9 (lo := 0) (hi := 10) (by omega) (by omega) (fun j e1 => i1 ?_) (fun e1 => by have := rx_no (by omega) (by omega) e1; omega)
  refine p_in9 (lo := 0) (hi := 1) (by omega) (by omega) (fun j e1 => i1 ?_) (fun e1 => by have := rx_no (by omega) (by omega) e1; omega)
  refine p_holds ?_
  intro held2 hh2
  have back : ∀ f, (∀ k, k < 86 → f k = held2 k) → rS f w st d l := fun f hf => rS_copy h (fun k hk => (hf k hk).trans (hh2 k hk))
  have hm : pop48 (wr w p) ≤ 12 := Nat.le_trans (row_le w hp6) hS.1.2
  have hlen : (wL (wr w p)).length = pop48 (wr w p) := wl_len _
  intro J50 h50
  suffices key : ∀ sp, (∀ c, c < (wl (fun v => (wr w p).testBit (psn v)) 0).length → sp c = nI ((wl (fun v => (wr w p).testBit (psn v)) 0).getD c 0)) → J50 (nI (wl (fun v => (wr w p).testBit (psn v)) 0).length) (nI 0) sp from key spoken (fun c hc => absurd hc (Nat.not_lt_zero _))
  refine kloop (J := fun v => ∀ sp, (∀ c, c < (wl (fun v => (wr w p).testBit (psn v)) v).length → sp c = nI ((wl (fun v => (wr w p).testBit (psn v)) v).getD c 0)) → J50 (nI (wl (fun v => (wr w p).testBit (psn v)) v).length) (nI v) sp) (N := 48) ?_ ?_
  · intro sp hsp
    change ∀ c, c < (wL (wr w p)).length → sp c = nI ((wL (wr w p)).getD c 0) at hsp
    show J50 (nI (wL (wr w p)).length) (nI 48) sp
    rw [hlen]
    refine h50 _ _ _ ?_
    rw [if_pos (show (48 : Int32) ≤ nI 48 by decide)]
    have h2m := p2_12 _ (show pop48 (wr w p) < 13 by omega)
    have h10 := p10_12 _ (show pop48 (wr w p) < 13 by omega)
    have hcl := cS_le (P := P) (w := w) (st := st) (p := p) (n := n) hx
    obtain ⟨F, eF⟩ : ∃ F, FS P st p n x (pop48 (wr w p)) = F := ⟨_, rfl⟩
    have eS : cS P w st p n x = nsum (fun k => F (apN (wG (wr w p)) (wr w p) k (pop48 (wr w p)))) (2 ^ pop48 (wr w p)) := by
      unfold cS
      rw [eF, wl_sum]
    intro J128 h128
    suffices key : J128 (lN (10 ^ 0)) (nI 0) from key
    refine kloop (J := fun k => J128 (lN (10 ^ k)) (nI k)) (N := pop48 (wr w p)) ?_ ?_
    · refine h128 _ _ (it_le (by omega) (by omega) (fun _ => ?_) (fun y => absurd y (by omega)))
      rw [sh13 _ (by omega)]
      intro J152 h152
      suffices key : ∀ wo2 s2, rS s2 w st d l → J152 (lN (nsum (fun k => F (apN (wG (wr w p)) (wr w p) k (pop48 (wr w p)))) 0)) (nI 0) wo2 s2 from key wo s h
      refine kloop (J := fun k => ∀ wo2 s2, rS s2 w st d l → J152 (lN (nsum (fun k => F (apN (wG (wr w p)) (wr w p) k (pop48 (wr w p)))) k)) (nI k) wo2 s2) (N := 2 ^ pop48 (wr w p)) ?_ ?_
      · intro wo2 s2 hs2
        refine h152 _ _ _ _ (it_le (by omega) (by omega) (fun _ => ?_) (fun y => absurd y (by omega)))
        rw [← eS]
        refine p_gcd9 (K := fun v => K v wo2 s2 held2 sp) (by omega) (Nat.pow_pos (by decide)) (by omega) ?_ (by omega)
        exact hK _ _ _ _ hs2
      · intro k hk hnk wo2 s2 hs2
        refine h152 _ _ _ _ (it_le (by omega) (by omega) (fun y => absurd y (by omega)) (fun _ => ?_))
        intro J167 h167
        suffices key : ∀ s3, rS s3 (wap w p (wL (wr w p)) k 0) st d l → J167 (lN (wN x (10 - x) k 0)) (nI 0) s3 from key s2 hs2
        refine kloop (J := fun c => ∀ s3, rS s3 (wap w p (wL (wr w p)) k c) st d l → J167 (lN (wN x (10 - x) k c)) (nI c) s3) (N := pop48 (wr w p)) ?_ ?_
        · intro s3 hs3
          refine h167 _ _ _ (it_le (by omega) (by omega) (fun _ => ?_) (fun y => absurd y (by omega)))
          have hW := wap_WF (k := k) hS.1.1 hp h6 (pop48 (wr w p)) (by omega)
          have hrow := wap_row w (p := p) (k := k) (pop48 (wr w p)) (by omega)
          refine p_goesBy hP.1 hP.2.2 hT hp6 (fun m i hi => hW.f hi) (hS.2.1 p) (hS.2.2.1 p) (hS.2.2.2.2 p) hs3 ?_
          intro s4 hs4
          rw [m8, nI_add, nI_clamp (by omega), hs4.1 p hp6 n (by omega), uT_s]
          refine ⟨vl _ _ (by omega) (by omega), ?_⟩
          have ed : dayS (Pnn P) (Pkind P p) (Pbed P p) (Pfood P p) (Pq P) (Punk P) (Peat P) (cw (wap w p (wL (wr w p)) k (pop48 (wr w p))) p) (st p) = dayS (Pnn P) (Pkind P p) (Pbed P p) (Pfood P p) (Pq P) (Punk P) (Peat P) (cwR (apN (wG (wr w p)) (wr w p) k (pop48 (wr w p)))) (st p) := by
            rw [← hrow]
            exact dayS_cw (fun c hc => (cwR_wr _ p (by omega)).symm)
          rw [ed]
          have hVd : (dayS (Pnn P) (Pkind P p) (Pbed P p) (Pfood P p) (Pq P) (Punk P) (Peat P) (cwR (apN (wG (wr w p)) (wr w p) k (pop48 (wr w p)))) (st p)).1 n < 10 := V.day (hS.2.1 p) (cwR_lt _) n
          intro J292 h292
          have go : ∀ v23, v23 = lN (F (apN (wG (wr w p)) (wr w p) k (pop48 (wr w p)))) → J292 v23 := by
            intro v23 e23
            refine h292 _ ?_
            intro x24 e24
            refine p_lets ?_
            intro s5 hs5
            rw [e24, e23, lN_add, nI_1]
            exact hnk _ _ (back s5 hs5)
          have eFk : F (apN (wG (wr w p)) (wr w p) k (pop48 (wr w p))) = if lodS P st p n (apN (wG (wr w p)) (wr w p) k (pop48 (wr w p))) then wN x (10 - x) k (pop48 (wr w p)) else 0 := by
            rw [← eF, wl_w]
            rfl
          refine it_le (b := 0) (by omega) (by omega) (fun y => go _ ?_) (fun y => go _ ?_)
          · rw [eFk, show lodS P st p n (apN (wG (wr w p)) (wr w p) k (pop48 (wr w p))) = false from decide_eq_false (by omega)]
            rfl
          · rw [eFk, show lodS P st p n (apN (wG (wr w p)) (wr w p) k (pop48 (wr w p))) = true from decide_eq_true (by omega)]
            rfl
        · intro c hc hnc s3 hs3
          refine h167 _ _ _ (it_le (by omega) (by omega) (fun y => absurd y (by omega)) (fun _ => ?_))
          have hmem := wl_mem (wr w p) (show c < (wL (wr w p)).length by omega)
          have hspc := hsp c (by omega)
          have hrem : sp c - sp c / 8 * 8 = nI ((wL (wr w p)).getD c 0 % 8) := by rw [hspc]; exact c_rem hmem.1
          have hat : 48 + 6 * (sp c / 8) + nI p = nI (48 + 6 * ((wL (wr w p)).getD c 0 / 8) + p) := by rw [hspc]; exact c_at hmem.1
          intro J190 h190
          have stp : ∀ v26, (v26 = if k.testBit c then (1 : Int32) else 0) → J190 v26 := by
            intro v26 e26
            refine h190 _ ?_
            intro J209 h209
            have go : ∀ v27, v27 = lN (if k.testBit c then x else 10 - x) → J209 v27 := by
              intro v27 e27
              refine h209 _ ?_
              intro x28 e28
              rw [nI_clamp (show c < 2 ^ 31 by omega), hat, nI_clamp (show 48 + 6 * ((wL (wr w p)).getD c 0 / 8) + p < 2 ^ 31 by omega), hrem]
              refine ⟨vl _ _ (by omega) (by omega), vl _ _ (by omega) (by omega), ?_⟩
              have ew : x28 = lN (wN x (10 - x) k (c + 1)) := by
                rw [e28, e27, lN_mul]
                rfl
              intro J257 h257
              cases e : k.testBit c with
              | true =>
                rw [e] at e26
                rw [e26, if_neg (by decide)]
                refine h257 _ ⟨vl _ _ (by omega) (by omega), ?_⟩
                rw [ew, nI_1]
                refine hnc _ ?_
                rw [show wap w p (wL (wr w p)) k (c + 1) = wap w p (wL (wr w p)) k c by show (if k.testBit c then _ else _) = _; rw [e]; rfl]
                refine rS_copy hs3 (fun j hj => ?_)
                by_cases z : j = 48 + 6 * ((wL (wr w p)).getD c 0 / 8) + p
                · rw [z, pk_us, Int32.xor_zero]
                · exact pk_un z
              | false =>
                rw [e, if_neg (show ¬ (false = true) by decide)] at e26
                rw [e26, if_pos rfl]
                refine ⟨vl _ _ (by omega) (by omega), h257 _ ⟨vl _ _ (by omega) (by omega), ?_⟩⟩
                rw [ew, nI_1]
                refine hnc _ ?_
                rw [show wap w p (wL (wr w p)) k (c + 1) = wfc (wap w p (wL (wr w p)) k c) p ((wL (wr w p)).getD c 0) by show (if k.testBit c then _ else _) = _; rw [e]; rfl]
                exact hs3.word (by omega) hp6 (by omega)
            rw [e26]
            cases e : k.testBit c with
            | true =>
              rw [if_pos rfl, if_neg (by decide), nI_l (by omega)]
              refine go _ ?_
              rw [e, if_pos rfl]
            | false =>
              rw [if_neg (show ¬ (false = true) by decide), if_pos rfl, show (10 : Int32) - nI x = nI (10 - x) from pk_sub (a := 10) hx, nI_l (by omega)]
              refine go _ ?_
              rw [e, if_neg (by decide)]
          rw [sh_bit12 (by omega) (by omega)]
          cases e : k.testBit c with
          | true =>
            rw [if_pos (show nI (bI true) = 1 from rfl)]
            exact stp 1 (by rw [e, if_pos rfl])
          | false =>
            rw [if_neg (show ¬ nI (bI false) = 1 by decide)]
            exact stp 0 (by rw [e, if_neg (by decide)])
    · intro k hk hnk
      refine h128 _ _ (it_le (by omega) (by omega) (fun y => absurd y (by omega)) (fun _ => ?_))
      intro x30 e30
      rw [e30, show (10 : Int64) = lN 10 from rfl, lN_mul, ← Nat.pow_succ, nI_1]
      exact hnk
  · intro v hv hnv sp hsp
    have hlv := wl_getD (fun v => (wr w p).testBit (psn v)) v
    have hQ : (wr w p).testBit (psn v) = w (v / 8) p (v % 8) := wr_tb w p (by omega) (by omega)
    obtain ⟨L, hL⟩ : ∃ L, wl (fun v => (wr w p).testBit (psn v)) v = L := ⟨_, rfl⟩
    have hs := wl_s (fun v => (wr w p).testBit (psn v)) v
    rw [hL] at hsp hlv hs ⊢
    refine h50 _ _ _ ?_
    refine it_le (a := 48) (by omega) (by omega) (fun y => absurd y (by omega)) (fun _ => ?_)
    rw [k0, hT.1, c_rem hv, c_at hv, nI_clamp (by omega), show (8 : Int32) = nI 8 from rfl, pk_div (by omega) (by omega) (by omega)]
    refine ⟨vl 0 _ (by omega) (by omega), ?_⟩
    intro J113 h113
    have no : w (v / 8) p (v % 8) = false → J113 (nI L.length) sp := by
      intro hw
      rw [hQ, hw, if_neg (by decide)] at hs
      rw [hs] at hnv
      refine h113 _ _ ?_
      rw [nI_1]
      exact hnv sp hsp
    refine it_le (by omega) (by omega) (fun y => no (hS.1.f y)) (fun _ => ?_)
    refine ⟨vl _ _ (by omega) (by omega), ?_⟩
    rw [h.2.1 _ (by omega) p hp6, sh_bit (wm_lt _ _ _) (by omega), wm_tb _ _ _ (by omega)]
    cases e : w (v / 8) p (v % 8) with
    | false =>
      rw [if_neg (show ¬ nI (bI false) = 1 by decide)]
      exact no e
    | true =>
      rw [if_pos (show nI (bI true) = 1 from rfl)]
      rw [hQ, e, if_pos rfl] at hs
      rw [hs] at hnv
      refine ⟨vl _ _ (by omega) (by omega), h113 _ _ ?_⟩
      rw [nI_1, nI_1, nI_clamp (by omega)]
      rw [List.length_append] at hnv
      refine hnv _ (fun c hc => ?_)
      by_cases z : c = L.length
      · subst z
        rw [pk_us]
        simp
      · have hc2 : c < L.length := by simp at hc; omega
        rw [pk_un z, hsp c hc2]
        simp [hc2, List.getElem_append_left, List.getElem?_append_left]
theorem r_chance {P : aP} {told s held spoken : Nat → Int32} {w : aW} {st : aT} {d l wo : Int32} {x y z u : Int32} {K : Int64 → Int32 → (Nat → Int32) → (Nat → Int32) → (Nat → Int32) → Prop} (hP : PV1 P) (hT : rT P told) (h : rS s w st d l) (hS : SV P w st)
    (hK : ∀ wo s' held' sp', rS s' w st d l → K (aChance P w st x y z u) wo s' held' sp') : wpX9_chance wo told s held spoken x y z u K := by
  unfold aChance iC at hK
  cases e1 : iPN P x y with
  | none =>
    rw [e1] at hK
    dsimp only at hK
    unfold wpX9_chance
    refine p_isPerson9 hP hT (fun p e J36 h36 => i1 (p_isName9 hP hT (fun n e2 => ?_) (fun _ => i0 (h36 (hK _ _ _ _ h))))) (fun _ J36 h36 => i0 (h36 (hK _ _ _ _ h)))
    rw [iPN_m e e2] at e1
    cases e1
  | some v =>
    have g1 := iPN_s hP e1
    cases e2 : rx 0 10 z with
    | none =>
      rw [e1, e2] at hK
      dsimp only at hK
      unfold wpX9_chance
      exact p_isPerson9 hP hT (fun p e J36 h36 => i1 (p_isName9 hP hT (fun n _ => i1 (p_in9 (lo := 0) (hi := 10) (by omega) (by omega) (fun a e3 => by rw [e2] at e3; cases e3) (fun _ => i0 (h36 (hK _ _ _ _ h))))) (fun _ => i0 (h36 (hK _ _ _ _ h))))) (fun _ J36 h36 => i0 (h36 (hK _ _ _ _ h)))
    | some t =>
      have g2 := rx_some e2
      cases e3 : rx 0 1 u with
      | none =>
        rw [e1, e2, e3] at hK
        dsimp only at hK
        unfold wpX9_chance
        exact p_isPerson9 hP hT (fun p e J36 h36 => i1 (p_isName9 hP hT (fun n _ => i1 (p_in9 (lo := 0) (hi := 10) (by omega) (by omega) (fun a _ => i1 (p_in9 (lo := 0) (hi := 1) (by omega) (by omega) (fun a e4 => by rw [e3] at e4; cases e4) (fun _ => i0 (h36 (hK _ _ _ _ h))))) (fun _ => i0 (h36 (hK _ _ _ _ h))))) (fun _ => i0 (h36 (hK _ _ _ _ h))))) (fun _ J36 h36 => i0 (h36 (hK _ _ _ _ h)))
      | some k =>
        have g3 := rx_some e3
        rw [e1, e2, e3] at hK
        dsimp only at hK
        rw [g1.2.2.1, g1.2.2.2, g2.2.2, g3.2.2]
        exact r_chanceA hP hT h hS g1.1 g1.2.1 g2.2.1 g3.2.1 hK
