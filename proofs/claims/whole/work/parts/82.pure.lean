/-! pure: chance of the class, 2 -/
theorem en_lt {R : Nat} (h : R < 2 ^ 48) (k : Nat) : en 48 R k < 2 ^ 48 := by
  have := en_sub 48 R k
  have h2 : en 48 R k &&& R ≤ R := Nat.and_le_right
  omega
theorem pop_le {S R : Nat} (h : S &&& R = S) : pop48 S ≤ pop48 R := by
  unfold pop48
  have key : ∀ n, nsum (fun k => bI (S.testBit k)) n ≤ nsum (fun k => bI (R.testBit k)) n := by
    intro n
    induction n with
    | zero => exact Nat.le_refl 0
    | succ n ih =>
      have e : bI (S.testBit n) ≤ bI (R.testBit n) := by
        rw [← h, Nat.testBit_and]
        cases S.testBit n <;> cases R.testBit n <;> decide
      show nsum _ n + bI (S.testBit n) ≤ nsum _ n + bI (R.testBit n)
      omega
  exact key 48
theorem sh13 : ∀ m, m < 13 → (1 : Int32) <<< (nI m &&& 31) = nI (2 ^ m) := by decide +kernel
theorem p2_12 : ∀ m, m < 13 → 2 ^ m < 5000 := by decide
theorem p10_12 : ∀ m, m < 13 → 10 ^ m ≤ 1000000000000 := by decide
theorem p_chanceAbove {P : aP} {w : aW} {st : aT} {p n x : Nat} {np nn q hk hb hf : Int32} {hw : Int64} {hs kinds beds foods pu pe f : Nat → Int32} {rows : Nat → Int64} {K : Int64 → Int32 → Int32 → Int32 → Int64 → (Nat → Int32) → Prop} (hP : PV1 P) (hR : rPt P np nn q kinds beds foods pu pe) (hwr : rW rows w) (h : rD f st) (hS : SV P w st) (hp : p < Pnp P) (hn : n < 8) (hx : x ≤ 10) (hm : pop48 (wr w p) ≤ 12)
    (hK : ∀ a b c e g, K (lN (cS P w st p n x)) a b c e g) : wpX1_chanceAbove nn q kinds beds foods pu pe rows f hk hb hf hw hs (nI p) (nI n) (nI x) K := by
  have h6 := hP.1.1
  obtain ⟨hnp, hnn, hq, hkd, hbd, hfd, hu, he⟩ := hP.1
  have hRl := wr_lt w p
  unfold wpX1_chanceAbove
  refine p_about hwr (by omega) ?_
  refine p_bit64 hRl ?_
  intro x3 e3
  have e3' : x3 = nI (pop48 (wr w p)) := by
    rw [e3, show (12 : Int32) = nI 12 from rfl]
    by_cases y : pop48 (wr w p) < 12
    · rw [if_pos ((nI_ltI (by omega) (by omega)).mpr y)]
    · rw [if_neg (fun z => y ((nI_ltI (by omega) (by omega)).mp z)), show pop48 (wr w p) = 12 by omega]
  rw [e3', sh13 _ (by omega)]
  have hpc : pc 48 (wr w p) = pop48 (wr w p) := pc_ns 48 _
  have h2m := p2_12 _ (show pop48 (wr w p) < 13 by omega)
  obtain ⟨F, eF⟩ : ∃ F, FS P st p n x (pop48 (wr w p)) = F := ⟨_, rfl⟩
  have eS : cS P w st p n x = nsum (fun k => F (en 48 (wr w p) k)) (2 ^ pop48 (wr w p)) := by
    unfold cS
    rw [eF, ← en_sum 48 _ _ hRl, hpc]
  rw [eS] at hK
  intro J hJ
  suffices key : ∀ v5 a b c e g, v5 = lN (en 48 (wr w p) 0) → J (lN (nsum (fun k => F (en 48 (wr w p) k)) 0)) v5 (nI 0) a b c e g from key _ _ _ _ _ _ (by rw [en_0 48 _ hRl])
  refine kloop (J := fun k => ∀ v5 a b c e g, (k < 2 ^ pop48 (wr w p) → v5 = lN (en 48 (wr w p) k)) → J (lN (nsum (fun k => F (en 48 (wr w p) k)) k)) v5 (nI k) a b c e g) (N := 2 ^ pop48 (wr w p)) ?_ ?_ |> fun z => fun v5 a b c e g hv => z v5 a b c e g (fun _ => hv)
  · intro v5 a b c e g _
    exact hJ _ _ _ _ _ _ _ _ (it_le (by omega) (by omega) (fun _ => hK _ _ _ _ _) (fun y => absurd y (by omega)))
  · intro k hk hnx v5 a b c e g hv
    refine hJ _ _ _ _ _ _ _ _ (it_le (by omega) (by omega) (fun y => absurd y (by omega)) (fun _ => ?_))
    have hSl := en_lt hRl k
    have hsub := en_sub 48 (wr w p) k
    have hpl := pop_le hsub
    rw [hv hk]
    refine p_enter hP.1 hR hp hwr h ?_
    intro g0 hg0
    rw [hR.2.1, hR.2.2.1]
    refine p_passDay hnn (hkd p) (hbd p) (hfd p) hq.2 (by omega) (hS.2.1 p) hu he hg0 hR.2.2.2.2.2.2.1 hR.2.2.2.2.2.2.2 (hS.2.2.1 p) ?_
    intro g1 hg1
    refine p_atR hg1 hn hn (by decide) ?_
    have hVd : (dayS (Pnn P) (Pkind P p) (Pbed P p) (Pfood P p) (Pq P) (Punk P) (Peat P) (cwR (en 48 (wr w p) k)) (st p)).1 n < 10 := V.day (hS.2.1 p) (cwR_lt _) n
    intro J120 h120
    have go : ∀ v20, v20 = lN (nsum (fun k => F (en 48 (wr w p) k)) (k + 1)) → J120 v20 := by
      intro v20 e20
      refine h120 _ ?_
      intro x21 e21
      rw [e20, nI_1]
      refine hnx _ _ _ _ _ _ (fun hk1 => ?_)
      obtain ⟨n1, n2⟩ := en_next 48 (wr w p) k (by rw [hpc]; exact hk1)
      rw [e21, show (1 : Int64) = lN 1 from rfl, lN_sub n1, wb_and (by omega) (by omega), n2]
    have eFk : F (en 48 (wr w p) k) = if lodS P st p n (en 48 (wr w p) k) then x ^ pop48 (en 48 (wr w p) k) * (10 - x) ^ (pop48 (wr w p) - pop48 (en 48 (wr w p) k)) else 0 := by rw [← eF]; rfl
    refine it_le (b := 0) (by omega) (by omega) (fun y => ?_) (fun y => ?_)
    · refine go _ ?_
      show _ = lN (nsum _ k + F (en 48 (wr w p) k))
      rw [eFk, show lodS P st p n (en 48 (wr w p) k) = false from decide_eq_false (by omega)]
      rfl
    · refine p_bit64 hSl ?_
      rw [nI_l (by omega), show (10 : Int32) - nI x = nI (10 - x) from pk_sub (a := 10) hx, nI_l (by omega)]
      refine p_power (by omega) ?_
      rw [pk_sub hpl]
      refine p_power (by omega) ?_
      intro x25 e25
      refine go _ ?_
      show _ = lN (nsum _ k + F (en 48 (wr w p) k))
      rw [e25, eFk, show lodS P st p n (en 48 (wr w p) k) = true from decide_eq_true (by omega), lN_mul, lN_add]
      rfl
theorem row_le (w : aW) {p : Nat} (hp : p < 6) : pop48 (wr w p) ≤ tot w := by
  unfold tot
  have : ∀ n, p < n → pop48 (wr w p) ≤ nsum (fun p => pop48 (wr w p)) n := by
    intro n
    induction n with
    | zero => intro h; omega
    | succ n ih =>
      intro h
      show _ ≤ nsum (fun p => pop48 (wr w p)) n + pop48 (wr w n)
      by_cases e : p = n
      · subst e; omega
      · have := ih (by omega); omega
  exact this 6 hp
abbrev wL (R : Nat) : List Nat := wl (fun v => R.testBit (psn v)) 48
abbrev wG (R : Nat) (c : Nat) : Nat := psn ((wL R).getD c 0)
theorem wl_mem (R : Nat) {c : Nat} (hc : c < (wL R).length) : (wL R).getD c 0 < 48 ∧ R.testBit (wG R c) = true := by
  have hm : (wL R).getD c 0 ∈ wL R := by simp [hc]
  unfold wL wl at hm
  rw [List.mem_filter, List.mem_range] at hm
  exact hm
theorem psn_lt {v : Nat} (h : v < 48) : psn v < 48 := by unfold psn; omega
theorem wl_inj (R : Nat) {a b : Nat} (ha : a < (wL R).length) (hb : b < (wL R).length) (h : wG R a = wG R b) : a = b := by
  have h1 := (wl_mem R ha).1
  have h2 := (wl_mem R hb).1
  have e : (wL R).getD a 0 = (wL R).getD b 0 := by
    unfold wG psn at h
    omega
  have hs : (wL R).Pairwise (· < ·) := by
    unfold wL wl
    exact List.pairwise_lt_range.filter _
  have hs2 := List.pairwise_iff_getElem.mp hs
  simp [ha, hb] at e
  rcases Nat.lt_trichotomy a b with y | y | y
  · have := hs2 a b ha hb y; omega
  · exact y
  · have := hs2 b a hb ha y; omega
theorem wl_sum (R : Nat) (F : Nat → Nat) : HL R (bl 48 R) F = nsum (fun k => F (apN (wG R) R k (pop48 R))) (2 ^ pop48 R) := by
  have hp := (wl_perm R).symm
  rw [HL_perm _ hp, HL_perm _ (List.reverse_perm _).symm]
  have e : (wL R).map psn = (List.range (wL R).length).map (wG R) := by
    refine List.ext_getElem (by simp) (fun k h1 h2 => ?_)
    rw [List.getElem_map, List.getElem_map, List.getElem_range]
    rw [List.length_map] at h1
    unfold wG
    congr 1
    simp [h1]
  show HL R ((wL R).map psn).reverse F = _
  rw [e, ← apN_sum, wl_len]
theorem wl_w {R k x y : Nat} : wN x y k (pop48 R) = x ^ pop48 (apN (wG R) R k (pop48 R)) * y ^ (pop48 R - pop48 (apN (wG R) R k (pop48 R))) := by
  have hlen : (wL R).length = pop48 R := wl_len R
  refine apN_end (fun c hc => ?_) (fun c hc => ?_) (fun a b ha hb h => ?_) rfl
  · exact psn_lt (wl_mem R (by omega)).1
  · exact (wl_mem R (by omega)).2
  · exact wl_inj R (by omega) (by omega) h
theorem nsum_lele {f g : Nat → Nat} (h : ∀ k, f k ≤ g k) : ∀ n, nsum f n ≤ nsum g n := by
  intro n
  induction n with
  | zero => exact Nat.le_refl 0
  | succ n ih => have := h n; show nsum f n + f n ≤ nsum g n + g n; omega
theorem cS_le {P : aP} {w : aW} {st : aT} {p n x : Nat} (hx : x ≤ 10) : cS P w st p n x ≤ 10 ^ pop48 (wr w p) := by
  unfold cS
  rw [wl_sum]
  have e := wN_sum x (10 - x) (pop48 (wr w p))
  rw [show x + (10 - x) = 10 by omega] at e
  rw [← e]
  refine nsum_lele (fun k => ?_) _
  rw [wl_w]
  unfold FS
  split
  · exact Nat.le_refl _
  · exact Nat.zero_le _
def iC (P : aP) (x y z u : Int32) : Option (Nat × Nat × Nat × Nat) := match iPN P x y, rx 0 10 z, rx 0 1 u with
  | some q, some a, some k => some (q.1, q.2, a, k)
  | _, _, _ => none
def chV (c b k : Nat) : Int64 := if k = 0 then lN (c / Nat.gcd c b) else lN (b / Nat.gcd c b)
def aChance (P : aP) (w : aW) (st : aT) (x y z u : Int32) : Int64 := match iC P x y z u with
  | some q => chV (cS P w st q.1 q.2.1 q.2.2.1) (10 ^ pop48 (wr w q.1)) q.2.2.2
  | none => -1
theorem c_chance {P : aP} {w : aW} {st : aT} {np nn q hk hb hf : Int32} {hw : Int64} {hs kinds beds foods pu pe f : Nat → Int32} {rows : Nat → Int64} {x y z u : Int32} {K : Int64 → Int32 → Int32 → Int32 → Int64 → (Nat → Int32) → Prop} (hP : PV1 P) (hR : rPt P np nn q kinds beds foods pu pe) (hwr : rW rows w) (h : rD f st) (hS : SV P w st)
    (hK : ∀ a b c e g, K (aChance P w st x y z u) a b c e g) : wpX8_chance np nn q kinds beds foods pu pe rows f hk hb hf hw hs x y z u K := by
  have h6 := hP.1.1
  have h8 := hP.1.2.1
  unfold wpX8_chance
  unfold aChance iC at hK
  rw [hR.1, hR.2.1]
  refine p_isLodging hP (fun v e1 => ?_) (fun e1 => ?_)
  · intro J29 h29
    refine i1 ?_
    refine p_within (lo := 0) (hi := 10) (by omega) (by omega) (fun a e2 => i1 ?_) (fun e2 => i0 (h29 (by rw [e1, e2] at hK; exact hK _ _ _ _ _)))
    refine p_within (lo := 0) (hi := 1) (by omega) (by omega) (fun k e3 => i1 ?_) (fun e3 => i0 (h29 (by rw [e1, e2, e3] at hK; exact hK _ _ _ _ _)))
    have g1 := iPN_s hP e1
    have g2 := rx_some e2
    have g3 := rx_some e3
    rw [e1, e2, e3] at hK
    dsimp only at hK
    have hm : pop48 (wr w v.1) ≤ 12 := Nat.le_trans (row_le w (by omega)) hS.1.2
    have hc := cS_le (P := P) (w := w) (st := st) (p := v.1) (n := v.2) g2.2.1
    have h10 := p10_12 _ (show pop48 (wr w v.1) < 13 by omega)
    have h10p : 0 < 10 ^ pop48 (wr w v.1) := Nat.pow_pos (by decide)
    rw [← hR.2.1, g1.2.2.1, g1.2.2.2, g2.2.2, g3.2.2]
    refine p_chanceAbove hP hR hwr h hS g1.1 (by omega) g2.2.1 hm ?_
    intro a1 a2 a3 a4 a5
    refine p_about hwr (by omega) ?_
    refine p_bit64 (wr_lt _ _) ?_
    refine p_power (a := 10) (by omega) ?_
    refine p_gcd (by omega) (by omega) ?_
    have hgp : 0 < Nat.gcd (cS P w st v.1 v.2 a) (10 ^ pop48 (wr w v.1)) := Nat.gcd_pos_of_pos_right _ h10p
    have hgl : Nat.gcd (cS P w st v.1 v.2 a) (10 ^ pop48 (wr w v.1)) ≤ 10 ^ pop48 (wr w v.1) := Nat.gcd_le_right _ h10p
    rw [if_pos (show 0 ≤ lg_cmp (lN (Nat.gcd (cS P w st v.1 v.2 a) (10 ^ pop48 (wr w v.1)))) 1 by
      rw [lg_cmp_ge]
      exact (pk_lLE (a := 1) (by omega) (by omega)).mpr hgp)]
    intro J97 h97
    unfold chV at hK
    refine it_eq (b := 0) (by omega) (by omega) (fun q => ?_) (fun q => ?_)
    · rw [if_pos q] at hK
      refine h97 _ ⟨fun z => by have := (lN_ne0 (by omega)).mp z; omega, ?_⟩
      rw [pk_lDiv (by omega) hgp (by omega)]
      exact hK _ _ _ _ _
    · rw [if_neg q] at hK
      refine h97 _ ⟨fun z => by have := (lN_ne0 (by omega)).mp z; omega, ?_⟩
      rw [pk_lDiv (by omega) hgp (by omega)]
      exact hK _ _ _ _ _
  · intro J29 h29
    exact i0 (h29 (by rw [e1] at hK; exact hK _ _ _ _ _))
