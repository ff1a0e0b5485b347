/-! pure: see, write -/
def iSee (P : aP) (x y t v : Int32) : Option (Nat × Nat × Nat × Nat) := match iPN P x y, rx 1 20 t, rx 0 9 v with
  | some q, some a, some b => some (q.1, q.2, a, b)
  | _, _, _ => none
theorem iSee_s {P : aP} {x y t v : Int32} {q : Nat × Nat × Nat × Nat} (hP : PV1 P) (h : iSee P x y t v = some q) : q.1 < Pnp P ∧ q.2.1 < Pnn P ∧ (1 ≤ q.2.2.1 ∧ q.2.2.1 ≤ 20) ∧ q.2.2.2 ≤ 9 ∧ x = nI q.1 ∧ y = nI q.2.1 ∧ t = nI q.2.2.1 ∧ v = nI q.2.2.2 := by
  unfold iSee at h
  split at h
  · rename_i p a b e1 e2 e3
    cases h
    have h1 := iPN_s hP e1
    have h2 := rx_some e2
    have h3 := rx_some e3
    exact ⟨h1.1, h1.2.1, ⟨h2.1, h2.2.1⟩, h3.2.1, h1.2.2.1, h1.2.2.2, h2.2.2, h3.2.2⟩
  · cases h
def rG (many : Int32) (ps ns ds vs : Nat → Int32) (c : Nat) (g : Nat → Nat × Nat × Nat × Nat) : Prop := many = nI c ∧ c ≤ 6 ∧ ∀ k, k < c → ps k = nI (g k).1 ∧ ns k = nI (g k).2.1 ∧ ds k = nI (g k).2.2.1 ∧ vs k = nI (g k).2.2.2
def rG9 (many : Int32) (seen ds : Nat → Int32) (c : Nat) (g : Nat → Nat × Nat × Nat × Nat) : Prop := many = nI c ∧ c ≤ 6 ∧ ∀ k, k < c → seen k = nI (10 * (8 * (g k).1 + (g k).2.1) + (g k).2.2.2) ∧ ds k = nI (g k).2.2.1
def GV (P : aP) (c : Nat) (g : Nat → Nat × Nat × Nat × Nat) : Prop := ∀ k, k < c → (g k).1 < Pnp P ∧ (g k).2.1 < Pnn P ∧ (1 ≤ (g k).2.2.1 ∧ (g k).2.2.1 ≤ 20) ∧ (g k).2.2.2 ≤ 9
def addG (c : Nat) (g : Nat → Nat × Nat × Nat × Nat) (q : Nat × Nat × Nat × Nat) : Nat → Nat × Nat × Nat × Nat := fun k => if k = c then q else g k
theorem GV.add {P : aP} {c : Nat} {g : Nat → Nat × Nat × Nat × Nat} {x y t v : Int32} {q : Nat × Nat × Nat × Nat} (hP : PV1 P) (h : GV P c g) (e : iSee P x y t v = some q) : GV P (c + 1) (addG c g q) := by
  intro k hk
  unfold addG
  split
  · have := iSee_s hP e
    exact ⟨this.1, this.2.1, this.2.2.1, this.2.2.2.1⟩
  · exact h k (by omega)
theorem c_see {P : aP} {many : Int32} {ps ns ds vs : Nat → Int32} {c : Nat} {g : Nat → Nat × Nat × Nat × Nat} {x y t v : Int32} {K : Int32 → Int32 → (Nat → Int32) → (Nat → Int32) → (Nat → Int32) → (Nat → Int32) → Prop} (hP : PV1 P) (h : rG many ps ns ds vs c g)
    (h0 : iSee P x y t v = none → K (-1) many ps ns ds vs)
    (h1 : ∀ q, iSee P x y t v = some q → c = 6 → K (-3) many ps ns ds vs)
    (h2 : ∀ q, iSee P x y t v = some q → c < 6 → ∀ a b e f, rG (nI (c + 1)) a b e f (c + 1) (addG c g q) → K (nI (c + 1)) (nI (c + 1)) a b e f) : wpX8_see (nI (Pnp P)) (nI (Pnn P)) many ps ns ds vs x y t v K := by
  obtain ⟨g1, g2, g3⟩ := h
  unfold wpX8_see
  refine p_isLodging hP (fun q e1 => i1 (p_within (lo := 1) (hi := 20) (by omega) (by omega) (fun a e2 => i1 (p_within (lo := 0) (hi := 9) (by omega) (by omega) (fun b e3 => i1 ?_) (fun e3 => i0 (h0 ?_)))) (fun e2 => i0 (h0 ?_)))) (fun e1 => i0 (h0 ?_))
  · have e : iSee P x y t v = some (q.1, q.2, a, b) := by unfold iSee; rw [e1, e2, e3]
    have hq := iSee_s hP e
    rw [g1]
    refine it_lt (b := 6) (by omega) (by omega) (fun q6 => ?_) (fun q6 => ?_)
    · unfold wpX4_add
      refine it_le (a := 6) (by omega) (by omega) (fun z => absurd z (by omega)) (fun _ => ?_)
      refine p_put q6 (by decide) (p_put q6 (by decide) (p_put q6 (by decide) (p_put q6 (by decide) ?_)))
      rw [nI_1]
      refine h2 _ e q6 _ _ _ _ ⟨rfl, by omega, fun k hk => ?_⟩
      unfold addG
      by_cases z : k = c
      · subst z
        rw [pk_us, pk_us, pk_us, pk_us, if_pos rfl]
        exact ⟨hq.2.2.2.2.1, hq.2.2.2.2.2.1, hq.2.2.2.2.2.2.1, hq.2.2.2.2.2.2.2⟩
      · rw [pk_un z, pk_un z, pk_un z, pk_un z, if_neg z]
        exact g3 k (by omega)
    · rw [← g1]
      exact h1 _ e (by omega)
  · unfold iSee; rw [e1, e2, e3]
  · unfold iSee; rw [e1, e2]
  · unfold iSee; rw [e1]
theorem r_see {P : aP} {told : Nat → Int32} {many : Int32} {seen ds : Nat → Int32} {c : Nat} {g : Nat → Nat × Nat × Nat × Nat} {x y t v : Int32} {K : Int32 → Int32 → (Nat → Int32) → (Nat → Int32) → Prop} (hP : PV1 P) (hT : rT P told) (h : rG9 many seen ds c g)
    (h0 : iSee P x y t v = none → K (-1) many seen ds)
    (h1 : ∀ q, iSee P x y t v = some q → c = 6 → K (-3) many seen ds)
    (h2 : ∀ q, iSee P x y t v = some q → c < 6 → ∀ a b, rG9 (nI (c + 1)) a b (c + 1) (addG c g q) → K (nI (c + 1)) (nI (c + 1)) a b) : wpX9_see many told seen ds x y t v K := by
  obtain ⟨g1, g2, g3⟩ := h
  unfold wpX9_see
  refine p_isPerson9 hP hT (fun p e0 => i1 (p_isName9 hP hT (fun n e1' => i1 ?_) (fun e1 => i0 (h0 ?_)))) (fun e0 => i0 (h0 ?_))
  · have e1 := iPN_m e0 e1'
    refine p_in9 (lo := 1) (hi := 20) (by omega) (by omega) (fun a e2 => i1 (p_in9 (lo := 0) (hi := 9) (by omega) (by omega) (fun b e3 => i1 ?_) (fun e3 => i0 (h0 ?_)))) (fun e2 => i0 (h0 ?_))
    · have e : iSee P x y t v = some (p, n, a, b) := by unfold iSee; rw [e1, e2, e3]
      have hq := iSee_s hP e
      rw [g1]
      refine it_eq (b := 6) (by omega) (by omega) (fun q6 => ?_) (fun q6 => ?_)
      · rw [← g1]
        exact h1 _ e q6
      · refine ⟨vl _ _ (by omega) (by omega), vl _ _ (by omega) (by omega), ?_⟩
        rw [nI_clamp (by omega), nI_1, hq.2.2.2.2.1, hq.2.2.2.2.2.1, hq.2.2.2.2.2.2.1, hq.2.2.2.2.2.2.2, m8, nI_add, m10, nI_add]
        refine h2 _ e (by omega) _ _ ⟨rfl, by omega, fun k hk => ?_⟩
        unfold addG
        by_cases z : k = c
        · subst z
          rw [pk_us, pk_us, if_pos rfl]
          exact ⟨rfl, rfl⟩
        · rw [pk_un z, pk_un z, if_neg z]
          exact g3 k (by omega)
    · unfold iSee; rw [e1, e2, e3]
    · unfold iSee; rw [e1, e2]
  · unfold iSee; rw [iPN_n2 e1]
  · unfold iSee; rw [iPN_n1 e0]
/-- the text: so many letters, 32 to 126 -/
def rX (len : Int32) (ls : Nat → Int32) (c : Nat) (t : Nat → Nat) : Prop := len = nI c ∧ c ≤ 200 ∧ ∀ k, k < c → ls k = nI (t k)
def XV (c : Nat) (t : Nat → Nat) : Prop := ∀ k, k < c → 32 ≤ t k ∧ t k ≤ 126
theorem rX.add {ls : Nat → Int32} {c : Nat} {t : Nat → Nat} {len : Int32} (h : rX len ls c t) (hc : c < 200) (a : Nat) : rX (nI (c + 1)) (upd ls c (nI a)) (c + 1) (uA t c a) := by
  refine ⟨rfl, by omega, fun k hk => ?_⟩
  by_cases z : k = c
  · subst z; rw [pk_us, uA_s]
  · rw [pk_un z, uA_n _ _ z]; exact h.2.2 k (by omega)
theorem XV.add {c a : Nat} {t : Nat → Nat} (h : XV c t) (h1 : 32 ≤ a) (h2 : a ≤ 126) : XV (c + 1) (uA t c a) := by
  intro k hk
  by_cases z : k = c
  · subst z; rw [uA_s]; exact ⟨h1, h2⟩
  · rw [uA_n _ _ z]; exact h k (by omega)
theorem c_write {len : Int32} {ls : Nat → Int32} {c : Nat} {t : Nat → Nat} {x : Int32} {K : Int32 → Int32 → (Nat → Int32) → Prop} (h : rX len ls c t)
    (h0 : rx 32 126 x = none → K (-1) len ls)
    (h1 : ∀ a, rx 32 126 x = some a → c = 200 → K (-3) len ls)
    (h2 : ∀ a, rx 32 126 x = some a → c < 200 → ∀ g, rX (nI (c + 1)) g (c + 1) (uA t c a) → K (nI (c + 1)) (nI (c + 1)) g) : wpX8_write len ls x K := by
  have hh := h
  obtain ⟨g1, g2, g3⟩ := h
  unfold wpX8_write
  refine p_within (lo := 32) (hi := 126) (by omega) (by omega) (fun a e => i1 ?_) (fun e => i0 (h0 e))
  have hq := rx_some e
  rw [g1]
  refine it_lt (b := 200) (by omega) (by omega) (fun z => ?_) (fun z => ?_)
  · unfold wpX6_add
    refine it_le (a := 200) (by omega) (by omega) (fun z => absurd z (by omega)) (fun _ => ?_)
    refine p_put z (by decide) ?_
    rw [nI_1, hq.2.2]
    exact h2 a e z _ (hh.add z a)
  · rw [← g1]
    exact h1 a e (by omega)
theorem r_write {len : Int32} {ls : Nat → Int32} {c : Nat} {t : Nat → Nat} {x : Int32} {K : Int32 → Int32 → (Nat → Int32) → Prop} (h : rX len ls c t)
    (h0 : rx 32 126 x = none → K (-1) len ls)
    (h1 : ∀ a, rx 32 126 x = some a → c = 200 → K (-3) len ls)
    (h2 : ∀ a, rx 32 126 x = some a → c < 200 → ∀ g, rX (nI (c + 1)) g (c + 1) (uA t c a) → K (nI (c + 1)) (nI (c + 1)) g) : wpX9_write len ls x K := by
  have hh := h
  obtain ⟨g1, g2, g3⟩ := h
  unfold wpX9_write
  refine p_in9 (lo := 32) (hi := 126) (by omega) (by omega) (fun a e => i1 ?_) (fun e => i0 (h0 e))
  have hq := rx_some e
  rw [g1]
  refine it_eq (b := 200) (by omega) (by omega) (fun z => ?_) (fun z => ?_)
  · rw [← g1]
    exact h1 a e z
  · refine ⟨vl _ _ (by omega) (by omega), ?_⟩
    rw [nI_1, nI_clamp (by omega), hq.2.2]
    exact h2 a e (by omega) _ (hh.add (by omega) a)
