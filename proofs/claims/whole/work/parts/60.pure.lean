/-! pure: what a number may be; the calls that only ask -/
def rx (lo hi : Nat) (x : Int32) : Option Nat := if (lo : Int) ≤ x.toInt ∧ x.toInt ≤ (hi : Int) then some x.toInt.toNat else none
theorem rx_some {lo hi : Nat} {x : Int32} {j : Nat} (h : rx lo hi x = some j) : lo ≤ j ∧ j ≤ hi ∧ x = nI j := by
  unfold rx at h
  split at h
  · rename_i q
    cases h
    refine ⟨by omega, by omega, ?_⟩
    apply Int32.toInt_inj.mp
    have h1 := x.toInt_lt
    have h2 : x.toInt.toNat < 2 ^ 31 := by omega
    rw [nI_toInt h2]
    omega
  · cases h
theorem p_within {lo hi : Nat} {x : Int32} {K : Int32 → Prop} (h1 : lo < 2 ^ 31) (h2 : hi < 2 ^ 31) (hy : ∀ j, rx lo hi x = some j → K 1) (hn : rx lo hi x = none → K 0) : wpX8_within x (nI lo) (nI hi) K := by
  unfold wpX8_within
  have t1 := nI_toInt h1
  have t2 := nI_toInt h2
  by_cases c1 : x < nI lo
  · rw [if_pos c1]
    have c1' := Int32.lt_iff_toInt_lt.mp c1
    exact hn (if_neg (by omega))
  · rw [if_neg c1]
    have c1' : ¬ x.toInt < (nI lo).toInt := fun z => c1 (Int32.lt_iff_toInt_lt.mpr z)
    by_cases c2 : nI hi < x
    · rw [if_pos c2]
      have c2' := Int32.lt_iff_toInt_lt.mp c2
      exact hn (if_neg (by omega))
    · rw [if_neg c2]
      have c2' : ¬ (nI hi).toInt < x.toInt := fun z => c2 (Int32.lt_iff_toInt_lt.mpr z)
      exact hy _ (if_pos (by omega))
theorem p_in9 {lo hi : Nat} {x : Int32} {K : Int32 → Prop} (h1 : lo < 2 ^ 31) (h2 : hi < 2 ^ 31) (hy : ∀ j, rx lo hi x = some j → K 1) (hn : rx lo hi x = none → K 0) : wpX9_in x (nI lo) (nI hi) K := p_within (K := K) h1 h2 hy hn
def PV1 (P : aP) : Prop := PV P ∧ 1 ≤ Pnp P ∧ 1 ≤ Pnn P
abbrev iP (P : aP) (x : Int32) : Option Nat := rx 0 (Pnp P - 1) x
abbrev iN (P : aP) (x : Int32) : Option Nat := rx 0 (Pnn P - 1) x
theorem nI_p1 {n : Nat} (h : 1 ≤ n) : nI n - 1 = nI (n - 1) := pk_sub (b := 1) h
theorem p_isPerson {P : aP} {x : Int32} {K : Int32 → Prop} (hP : PV1 P) (hy : ∀ j, iP P x = some j → K 1) (hn : iP P x = none → K 0) : wpX8_isPerson (nI (Pnp P)) x K := by
  obtain ⟨⟨h6, -⟩, h1, -⟩ := hP
  unfold wpX8_isPerson
  rw [nI_p1 h1]
  exact p_within (lo := 0) (by omega) (by omega) (fun j hj => ⟨Or.inr rfl, hy j hj⟩) (fun h => ⟨Or.inl rfl, hn h⟩)
theorem p_isName {P : aP} {x : Int32} {K : Int32 → Prop} (hP : PV1 P) (hy : ∀ j, iN P x = some j → K 1) (hn : iN P x = none → K 0) : wpX8_isName (nI (Pnn P)) x K := by
  obtain ⟨⟨h6, h8, -⟩, -, h1⟩ := hP
  unfold wpX8_isName
  rw [nI_p1 h1]
  exact p_within (lo := 0) (by omega) (by omega) (fun j hj => ⟨Or.inr rfl, hy j hj⟩) (fun h => ⟨Or.inl rfl, hn h⟩)
theorem p_isPerson9 {P : aP} {told : Nat → Int32} {x : Int32} {K : Int32 → Prop} (hP : PV1 P) (hT : rT P told) (hy : ∀ j, iP P x = some j → K 1) (hn : iP P x = none → K 0) : wpX9_isPerson told x K := by
  obtain ⟨⟨h6, -⟩, h1, -⟩ := hP
  unfold wpX9_isPerson
  rw [k0, hT.1, nI_p1 h1]
  exact ⟨vl 0 _ (by omega) (by omega), p_in9 (lo := 0) (by omega) (by omega) (fun j hj => ⟨Or.inr rfl, hy j hj⟩) (fun h => ⟨Or.inl rfl, hn h⟩)⟩
theorem p_isName9 {P : aP} {told : Nat → Int32} {x : Int32} {K : Int32 → Prop} (hP : PV1 P) (hT : rT P told) (hy : ∀ j, iN P x = some j → K 1) (hn : iN P x = none → K 0) : wpX9_isName told x K := by
  obtain ⟨⟨h6, h8, -⟩, -, h1⟩ := hP
  unfold wpX9_isName
  rw [k1, hT.2.1, nI_p1 h1]
  exact ⟨vl 1 _ (by omega) (by omega), p_in9 (lo := 0) (by omega) (by omega) (fun j hj => ⟨Or.inr rfl, hy j hj⟩) (fun h => ⟨Or.inl rfl, hn h⟩)⟩
theorem i0 {A B : Prop} (h : A) : if (0 : Int32) = 0 then A else B := by rw [if_pos rfl]; exact h
theorem i1 {A B : Prop} (h : B) : if (1 : Int32) = 0 then A else B := by rw [if_neg (by decide)]; exact h
def iPN (P : aP) (x y : Int32) : Option (Nat × Nat) := match iP P x, iN P y with
  | some p, some n => some (p, n)
  | _, _ => none
theorem iPN_s {P : aP} {x y : Int32} {q : Nat × Nat} (hP : PV1 P) (h : iPN P x y = some q) : q.1 < Pnp P ∧ q.2 < Pnn P ∧ x = nI q.1 ∧ y = nI q.2 := by
  unfold iPN at h
  split at h
  · rename_i p n e1 e2
    cases h
    have h1 := rx_some e1
    have h2 := rx_some e2
    have := hP.2
    exact ⟨(show p < Pnp P by omega), (show n < Pnn P by omega), h1.2.2, h2.2.2⟩
  · cases h
theorem p_isLodging {P : aP} {x y : Int32} {K : Int32 → Prop} (hP : PV1 P) (hy : ∀ q, iPN P x y = some q → K 1) (hn : iPN P x y = none → K 0) : wpX8_isLodging (nI (Pnp P)) (nI (Pnn P)) x y K := by
  unfold wpX8_isLodging
  refine p_isPerson hP (fun p e1 => i1 (p_isName hP (fun n e2 => i1 (hy (p, n) ?_)) (fun e2 => i0 (hn ?_)))) (fun e1 => i0 (hn ?_))
  · unfold iPN; rw [e1, e2]
  · unfold iPN; rw [e1, e2]
  · unfold iPN; rw [e1]
/-- two different persons -/
def iPP (P : aP) (x y : Int32) : Option (Nat × Nat) := match iP P x, iP P y with
  | some p, some n => if p = n then none else some (p, n)
  | _, _ => none
theorem iPP_s {P : aP} {x y : Int32} {q : Nat × Nat} (hP : PV1 P) (h : iPP P x y = some q) : q.1 < Pnp P ∧ q.2 < Pnp P ∧ q.1 ≠ q.2 ∧ x = nI q.1 ∧ y = nI q.2 := by
  unfold iPP at h
  split at h
  · rename_i p n e1 e2
    split at h
    · cases h
    · rename_i hne
      cases h
      have h1 := rx_some e1
      have h2 := rx_some e2
      have := hP.2
      exact ⟨(show p < Pnp P by omega), (show n < Pnp P by omega), hne, h1.2.2, h2.2.2⟩
  · cases h
theorem p_isPair {P : aP} {x y : Int32} {K : Int32 → Prop} (hP : PV1 P) (hy : ∀ q, iPP P x y = some q → K 1) (hn : iPP P x y = none → K 0) : wpX8_isPair (nI (Pnp P)) x y K := by
  unfold wpX8_isPair
  refine p_isPerson hP (fun p e1 => i1 (p_isPerson hP (fun n e2 => i1 ?_) (fun e2 => i0 (hn ?_)))) (fun e1 => i0 (hn ?_))
  · have h1 := rx_some e1
    have h2 := rx_some e2
    have h6 := hP.1.1
    rw [h1.2.2, h2.2.2]
    refine it_eq (by omega) (by omega) (fun z => hn ?_) (fun z => hy (p, n) ?_)
    · unfold iPP; rw [e1, e2]; exact if_pos z
    · unfold iPP; rw [e1, e2]; exact if_neg z
  · unfold iPP; rw [e1, e2]
  · unfold iPP; rw [e1]
theorem p_areTwo {P : aP} {told : Nat → Int32} {x y : Int32} {K : Int32 → Prop} (hP : PV1 P) (hT : rT P told) (hy : ∀ q, iPP P x y = some q → K 1) (hn : iPP P x y = none → K 0) : wpX9_areTwo told x y K := by
  unfold wpX9_areTwo
  refine p_isPerson9 hP hT (fun p e1 => i1 (p_isPerson9 hP hT (fun n e2 => i1 ?_) (fun e2 => i0 (hn ?_)))) (fun e1 => i0 (hn ?_))
  · have h1 := rx_some e1
    have h2 := rx_some e2
    have h6 := hP.1.1
    rw [h1.2.2, h2.2.2]
    refine it_eq (by omega) (by omega) (fun z => hn ?_) (fun z => hy (p, n) ?_)
    · unfold iPP; rw [e1, e2]; exact if_pos z
    · unfold iPP; rw [e1, e2]; exact if_neg z
  · unfold iPP; rw [e1, e2]
  · unfold iPP; rw [e1]
def iW (P : aP) (x y z : Int32) : Option (Nat × Nat × Nat) := match iPP P x y, iN P z with
  | some q, some n => some (q.1, q.2, n)
  | _, _ => none
theorem iW_s {P : aP} {x y z : Int32} {q : Nat × Nat × Nat} (hP : PV1 P) (h : iW P x y z = some q) : q.1 < Pnp P ∧ q.2.1 < Pnp P ∧ q.1 ≠ q.2.1 ∧ q.2.2 < Pnn P ∧ x = nI q.1 ∧ y = nI q.2.1 ∧ z = nI q.2.2 := by
  unfold iW at h
  split at h
  · rename_i p n e1 e2
    cases h
    have h1 := iPP_s hP e1
    have h2 := rx_some e2
    have := hP.2
    exact ⟨h1.1, h1.2.1, h1.2.2.1, (show n < Pnn P by omega), h1.2.2.2.1, h1.2.2.2.2, h2.2.2⟩
  · cases h
theorem p_isWord {P : aP} {x y z : Int32} {K : Int32 → Prop} (hP : PV1 P) (hy : ∀ q, iW P x y z = some q → K 1) (hn : iW P x y z = none → K 0) : wpX8_isWord (nI (Pnp P)) (nI (Pnn P)) x y z K := by
  unfold wpX8_isWord
  refine p_isPair hP (fun p e1 => i1 (p_isName hP (fun n e2 => i1 (hy (p.1, p.2, n) ?_)) (fun e2 => i0 (hn ?_)))) (fun e1 => i0 (hn ?_))
  · unfold iW; rw [e1, e2]
  · unfold iW; rw [e1, e2]
  · unfold iW; rw [e1]
/-! stout -/
def aStout (P : aP) (st : aT) (x y : Int32) : Int32 := match iPN P x y with
  | some q => nI (st q.1 q.2)
  | none => -1
theorem c_stout {P : aP} {st : aT} {f : Nat → Int32} {x y : Int32} {K : Int32 → Prop} (hP : PV1 P) (h : rD f st) (hk : K (aStout P st x y)) : wpX8_stout (nI (Pnp P)) (nI (Pnn P)) f x y K := by
  have hnp := hP.1.1
  have hnn := hP.1.2.1
  unfold wpX8_stout
  refine p_isLodging hP (fun q e => i1 ?_) (fun e => i0 ?_)
  · have hq := iPN_s hP e
    unfold aStout at hk
    rw [e] at hk
    rw [hq.2.2.1, hq.2.2.2]
    exact p_stoutAt h (by omega) (by omega) hk
  · unfold aStout at hk
    rw [e] at hk
    exact hk
theorem iPN_n1 {P : aP} {x y : Int32} (h : iP P x = none) : iPN P x y = none := by unfold iPN; rw [h]
theorem iPN_n2 {P : aP} {x y : Int32} (h : iN P y = none) : iPN P x y = none := by
  unfold iPN; rw [h]
  cases iP P x <;> rfl
theorem iPN_m {P : aP} {x y : Int32} {p n : Nat} (h1 : iP P x = some p) (h2 : iN P y = some n) : iPN P x y = some (p, n) := by unfold iPN; rw [h1, h2]
theorem r_stout {P : aP} {told s : Nat → Int32} {w : aW} {st : aT} {d l : Int32} {x y : Int32} {K : Int32 → Prop} (hP : PV1 P) (hT : rT P told) (h : rS s w st d l) (hk : K (aStout P st x y)) : wpX9_stout told s x y K := by
  have hnp := hP.1.1
  have hnn := hP.1.2.1
  unfold wpX9_stout
  unfold aStout at hk
  refine p_isPerson9 hP hT (fun p e1 => i1 (p_isName9 hP hT (fun n e2 => i1 ?_) (fun e2 => i0 ?_))) (fun e1 => i0 ?_)
  · have hq := iPN_s hP (iPN_m e1 e2)
    rw [iPN_m e1 e2] at hk
    rw [hq.2.2.1, hq.2.2.2, m8, nI_add, nI_clamp (by omega), h.1 p (by omega) n (by omega)]
    exact ⟨vl _ _ (by omega) (by omega), hk⟩
  · rw [iPN_n2 e2] at hk; exact hk
  · rw [iPN_n1 e1] at hk; exact hk
/-! name -/
def aName (P : aP) (x y : Int32) : Int32 := match iN P x, rx 0 1 y with
  | some n, some k => if k = 0 then nI (Punk P n) else nI (Peat P n)
  | _, _ => -1
theorem c_name {P : aP} {np nn q : Int32} {kinds beds foods pu pe : Nat → Int32} {x y : Int32} {K : Int32 → Prop} (hP : PV1 P) (hR : rPt P np nn q kinds beds foods pu pe) (hk : K (aName P x y)) : wpX8_name (nI (Pnn P)) pu pe x y K := by
  have hnn := hP.1.2.1
  have hn1 := hP.2.2
  unfold wpX8_name
  unfold aName at hk
  refine p_isName hP (fun n e1 => i1 (p_within (lo := 0) (hi := 1) (by omega) (by omega) (fun k e2 => i1 ?_) (fun e2 => i0 ?_))) (fun e1 => i0 ?_)
  · have h1 := rx_some e1
    have h2 := rx_some e2
    rw [e1, e2] at hk
    dsimp only at hk
    rw [h1.2.2, h2.2.2]
    refine it_eq (b := 0) (by omega) (by omega) (fun z => ?_) (fun z => ?_)
    · exact p_atR hR.2.2.2.2.2.2.1 (by omega) (by omega) (by decide) (by rw [if_pos z] at hk; exact hk)
    · exact p_atR hR.2.2.2.2.2.2.2 (by omega) (by omega) (by decide) (by rw [if_neg z] at hk; exact hk)
  · rw [e1, e2] at hk; exact hk
  · rw [e1] at hk; exact hk
theorem r_name {P : aP} {told : Nat → Int32} {x y : Int32} {K : Int32 → Prop} (hP : PV1 P) (hT : rT P told) (hk : K (aName P x y)) : wpX9_name told x y K := by
  have hnn := hP.1.2.1
  have hn1 := hP.2.2
  unfold wpX9_name
  unfold aName at hk
  refine p_isName9 hP hT (fun n e1 => i1 (p_in9 (lo := 0) (hi := 1) (by omega) (by omega) (fun k e2 => i1 ?_) (fun e2 => i0 ?_))) (fun e1 => i0 ?_)
  · have h1 := rx_some e1
    have h2 := rx_some e2
    rw [e1, e2] at hk
    dsimp only at hk
    rw [h1.2.2, h2.2.2]
    intro J hJ
    refine it_eq (b := 0) (by omega) (by omega) (fun z => hJ _ ?_) (fun z => hJ _ ?_)
    · rw [a21, nI_clamp (by omega), hT.2.2.2.2.2.2.1 n (by omega)]
      rw [if_pos z] at hk
      exact ⟨vl _ _ (by omega) (by omega), hk⟩
    · rw [a29, nI_clamp (by omega), hT.2.2.2.2.2.2.2 n (by omega)]
      rw [if_neg z] at hk
      exact ⟨vl _ _ (by omega) (by omega), hk⟩
  · rw [e1, e2] at hk; exact hk
  · rw [e1] at hk; exact hk
/-! calls -/
def aCalls (P : aP) (w : aW) (x y z : Int32) : Int32 := match iW P x y z with
  | some q => nI (bI (w q.1 q.2.1 q.2.2))
  | none => -1
theorem c_calls {P : aP} {w : aW} {rows : Nat → Int64} {x y z : Int32} {K : Int32 → Prop} (hP : PV1 P) (h : rW rows w) (hk : K (aCalls P w x y z)) : wpX8_calls (nI (Pnp P)) (nI (Pnn P)) rows x y z K := by
  have hnp := hP.1.1
  have hnn := hP.1.2.1
  unfold wpX8_calls
  unfold aCalls at hk
  refine p_isWord hP (fun q e => i1 ?_) (fun e => i0 ?_)
  · have hq := iW_s hP e
    rw [e] at hk
    rw [hq.2.2.2.2.1, hq.2.2.2.2.2.1, hq.2.2.2.2.2.2]
    refine p_has h (by omega) (by omega) (by omega) ?_
    cases hw : w q.1 q.2.1 q.2.2 with
    | true => simp only [hw] at hk; exact i1 hk
    | false => simp only [hw] at hk; exact i0 hk
  · rw [e] at hk; exact hk
theorem r_calls {P : aP} {told s : Nat → Int32} {w : aW} {st : aT} {d l : Int32} {x y z : Int32} {K : Int32 → Prop} (hP : PV1 P) (hT : rT P told) (h : rS s w st d l) (hk : K (aCalls P w x y z)) : wpX9_calls told s x y z K := by
  have hnp := hP.1.1
  have hnn := hP.1.2.1
  unfold wpX9_calls
  unfold aCalls iW at hk
  refine p_areTwo hP hT (fun q e1 => i1 (p_isName9 hP hT (fun n e2 => i1 ?_) (fun e2 => i0 ?_))) (fun e1 => i0 ?_)
  · have hq := iPP_s hP e1
    have h2 := rx_some e2
    have hn1 := hP.2.2
    rw [e1, e2] at hk
    rw [hq.2.2.2.1, hq.2.2.2.2, h2.2.2, m6, a48, nI_add, nI_clamp (by omega), h.2.1 q.1 (by omega) q.2 (by omega), sh_bit (wm_lt w q.1 q.2) (by omega), wm_tb w q.1 q.2 (by omega)]
    exact ⟨vl _ _ (by omega) (by omega), hk⟩
  · rw [e1, e2] at hk; exact hk
  · rw [e1] at hk; exact hk
