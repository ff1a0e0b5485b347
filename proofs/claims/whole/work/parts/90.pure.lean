/-! pure: the text: reading, the reference -/
theorem p_item9 {len : Int32} {ls : Nat → Int32} {c : Nat} {t : Nat → Nat} {k : Nat} {P : aP} {w : aW} {dr bg : Nat → Int32} {K : Int32 → Int32 → Int32 → (Nat → Int32) → (Nat → Int32) → Prop} (h : rX len ls c t) (hV : XV c t) (hk : k < c) (hP : PV P) (hW : WV P w) (hT : rT P dr) (hB : rB bg w)
    (hJ : ∀ k' P' w', rdI c t k P w = some (k', P', w') → ∀ d b, rT P' d → rB b w' → K 1 (nI (tot w')) (nI k') d b)
    (hF : rdI c t k P w = none → ∀ x a d b, K 0 x a d b) : wpX9_readsItem len (nI (tot w)) (nI (k + 1)) ls dr bg (nI (lt c t k)) K := by
  have hc := h.2.1
  have hl := lt_lt hV k
  have h6 := hP.1
  have h8 := hP.2.1
  have htw := hW.2
  have t0 := hT.1
  have t1 := hT.2.1
  obtain ⟨L, eL⟩ : ∃ L, lt c t k = L := ⟨_, rfl⟩
  unfold rdI at hJ hF
  rw [eL] at hJ hF hl ⊢
  have in1 : ∀ N, N < 100 → ∀ v, v < 100 → ∀ K : Int32 → Prop, (v < N → K 1) → (¬ v < N → K 0) → wpX9_in (nI v) 0 (nI N - 1) K := fun N hN v hv K a b => p_i91 (by omega) (by omega) a b
  have in2 : ∀ lo hi, lo < 100 → hi < 100 → ∀ v, v < 100 → ∀ K : Int32 → Prop, (lo ≤ v ∧ v ≤ hi → K 1) → (¬ (lo ≤ v ∧ v ≤ hi) → K 0) → wpX9_in (nI v) (nI lo) (nI hi) K := fun lo hi h1 h2 v hv K a b => p_i9 (by omega) (by omega) (by omega) a b
  have ps : ∀ {k : Nat} {A B : Prop}, k < 1000 → A → (if 0 ≤ nI k then A else B) := fun hk ha => by rw [if_pos (nI_pos' (by omega))]; exact ha
  have ng : ∀ {A B : Prop}, B → (if (0 : Int32) ≤ -1 then A else B) := fun hb => by rw [if_neg (by decide)]; exact hb
  have ps2 : ∀ {k : Nat} {A B : Prop}, k < 1000 → B → (if nI k < 0 then A else B) := fun hk hb => by rw [if_neg (nI_pos (by omega))]; exact hb
  have ng2 : ∀ {A B : Prop}, A → (if (-1 : Int32) < 0 then A else B) := fun ha => by rw [if_pos (by decide)]; exact ha
  unfold wpX9_readsItem
  rw [k0, k1, k2, t0, t1]
  refine it_eq (b := 99) (by omega) (by omega) (fun y => ?_) (fun y1 => it_eq (b := 110) (by omega) (by omega) (fun y => ?_) (fun y2 => it_eq (b := 112) (by omega) (by omega) (fun y => ?_) (fun y3 => it_eq (b := 113) (by omega) (by omega) (fun y => ?_) (fun y4 => ?_))))
  · subst y
    rw [if_neg (by omega), if_neg (by omega), if_pos rfl] at hJ hF
    refine ⟨vl 0 _ (by omega) (by omega), ?_⟩
    refine p_number9 (e := 44) (Rg := fun v => v < Pnp P) h hV (by omega) (by omega) (by omega) (in1 _ (by omega)) (fun a q1 e1 o1 => ?_) (fun hno a => ?_)
    · have s1 := rdN_s (by omega) e1
      rw [e1] at hJ hF
      dsimp only at hJ hF
      intro J209 h209
      refine ps (by omega) ⟨vl 0 _ (by omega) (by omega), ?_⟩
      refine p_number9 (e := 44) (Rg := fun v => v < Pnp P) h hV (by omega) (by omega) (by omega) (in1 _ (by omega)) (fun b q2 e2 o2 => h209 _ _ ?_) (fun hno a' => h209 _ _ ?_)
      · have s2 := rdN_s (by omega) e2
        rw [e2] at hJ hF
        dsimp only at hJ hF
        intro J233 h233
        refine ps (by omega) ⟨vl 1 _ (by omega) (by omega), ?_⟩
        refine p_number9 (e := 59) (Rg := fun v => v < Pnn P) h hV (by omega) (by omega) (by omega) (in1 _ (by omega)) (fun f q3 e3 o3 => h233 _ _ ?_) (fun hno a' => h233 _ _ ?_)
        · have s3 := rdN_s (by omega) e3
          rw [e3] at hJ hF
          dsimp only at hJ hF
          refine ps2 (by omega) ?_
          refine it_eq (by omega) (by omega) (fun z => hF (if_neg (fun o => o.2.2.1 z)) _ _ _ _) (fun z => ?_)
          refine p_wordOf hB (by omega) (by omega) (by omega) (fun b' hb' => ?_)
          have ht : tot (wf w a b f) ≤ 12 ↔ (w a b f = true ∨ tot w < 12) := by
            cases hw : w a b f with
            | true =>
              have := tot_t w (show a < 6 by omega) (show b < 6 by omega) (show f < 8 by omega) hw
              exact ⟨fun _ => Or.inl rfl, fun _ => by omega⟩
            | false =>
              have := tot_f w (show a < 6 by omega) (show b < 6 by omega) (show f < 8 by omega) hw
              exact ⟨fun _ => Or.inr (by omega), fun q => by rcases q with q | q; cases q; omega⟩
          have htl := tot_lt (wf w a b f)
          refine it_lt (a := 12) (by omega) (by omega) (fun q => hF (if_neg (fun o => by have := ht.mpr o.2.2.2.2; omega)) _ _ _ _) (fun q => ?_)
          exact hJ _ _ _ (if_pos ⟨o1, o2, z, o3, ht.mp q⟩) _ _ hT hb'
        · refine ng2 (hF ?_ _ _ _ _)
          cases e3 : rdN c t q2 59 with
          | none => rfl
          | some v3 => exact if_neg (fun o => hno _ _ e3 o.2.2.2.1)
      · intro J233 h233
        refine ng (h233 _ _ (ng2 (hF ?_ _ _ _ _)))
        cases e2 : rdN c t q1 44 with
        | none => rfl
        | some v2 =>
          dsimp only
          cases e3 : rdN c t v2.2 59 with
          | none => rfl
          | some v3 => exact if_neg (fun o => hno _ _ e2 o.2.1)
    · intro J209 h209
      refine ng (h209 _ _ ?_)
      intro J233 h233
      refine ng (h233 _ _ (ng2 (hF ?_ _ _ _ _)))
      cases e1 : rdN c t (k + 1) 44 with
      | none => rfl
      | some v1 =>
        dsimp only
        cases e2 : rdN c t v1.2 44 with
        | none => rfl
        | some v2 =>
          dsimp only
          cases e3 : rdN c t v2.2 59 with
          | none => rfl
          | some v3 => exact if_neg (fun o => hno _ _ e1 o.1)
  · subst y
    rw [if_neg (by omega), if_pos rfl] at hJ hF
    refine p_number9 (lo := 0) (hi := 20) (e := 44) (Rg := fun v => 0 ≤ v ∧ v ≤ 20) h hV (by omega) (by omega) (by omega) (in2 0 20 (by omega) (by omega)) (fun a q1 e1 o1 => ?_) (fun hno a => ?_)
    · have s1 := rdN_s (by omega) e1
      rw [e1] at hJ hF
      dsimp only at hJ hF
      intro J144 h144
      refine ps (by omega) ?_
      refine p_number9 (lo := 0) (hi := 9) (e := 59) (Rg := fun v => 0 ≤ v ∧ v ≤ 9) h hV (by omega) (by omega) (by omega) (in2 0 9 (by omega) (by omega)) (fun b q2 e2 o2 => h144 _ _ ?_) (fun hno a' => h144 _ _ ?_)
      · have s2 := rdN_s (by omega) e2
        rw [e2] at hJ hF
        dsimp only at hJ hF
        refine ps2 (by omega) ⟨vl 1 _ (by omega) (by omega), ?_⟩
        refine it_eq (b := 8) (by omega) (by omega) (fun z => hF (if_neg (fun o => by have := o.1; omega)) _ _ _ _) (fun z => ?_)
        refine p_nameOf hT (by omega) (fun d' hd' => ?_)
        exact hJ _ _ _ (if_pos ⟨by omega, o1.2, o2.2⟩) _ _ hd' hB
      · refine ng2 (hF ?_ _ _ _ _)
        cases e2 : rdN c t q1 59 with
        | none => rfl
        | some v2 => exact if_neg (fun o => hno _ _ e2 ⟨by omega, o.2.2⟩)
    · intro J144 h144
      refine ng (h144 _ _ (ng2 (hF ?_ _ _ _ _)))
      cases e1 : rdN c t (k + 1) 44 with
      | none => rfl
      | some v1 =>
        dsimp only
        cases e2 : rdN c t v1.2 59 with
        | none => rfl
        | some v2 => exact if_neg (fun o => hno _ _ e1 ⟨by omega, o.2.1⟩)
  · subst y
    rw [if_pos rfl] at hJ hF
    refine p_number9 (lo := 0) (hi := 4) (e := 44) (Rg := fun v => 0 ≤ v ∧ v ≤ 4) h hV (by omega) (by omega) (by omega) (in2 0 4 (by omega) (by omega)) (fun a q1 e1 o1 => ?_) (fun hno a => ?_)
    · have s1 := rdN_s (by omega) e1
      rw [e1] at hJ hF
      dsimp only at hJ hF
      intro J69 h69
      refine ps (by omega) ?_
      refine p_number9 (lo := 0) (hi := 5) (e := 44) (Rg := fun v => 0 ≤ v ∧ v ≤ 5) h hV (by omega) (by omega) (by omega) (in2 0 5 (by omega) (by omega)) (fun b q2 e2 o2 => h69 _ _ ?_) (fun hno a' => h69 _ _ ?_)
      · have s2 := rdN_s (by omega) e2
        rw [e2] at hJ hF
        dsimp only at hJ hF
        intro J87 h87
        refine ps (by omega) ?_
        refine p_number9 (lo := 0) (hi := 30) (e := 59) (Rg := fun v => 0 ≤ v ∧ v ≤ 30) h hV (by omega) (by omega) (by omega) (in2 0 30 (by omega) (by omega)) (fun f q3 e3 o3 => h87 _ _ ?_) (fun hno a' => h87 _ _ ?_)
        · have s3 := rdN_s (by omega) e3
          rw [e3] at hJ hF
          dsimp only at hJ hF
          refine ps2 (by omega) ⟨vl 0 _ (by omega) (by omega), ?_⟩
          refine it_eq (b := 6) (by omega) (by omega) (fun z => hF (if_neg (fun o => by have := o.1; omega)) _ _ _ _) (fun z => ?_)
          refine p_personOf hT (by omega) (by omega) (fun d' hd' => ?_) (by omega)
          exact hJ _ _ _ (if_pos ⟨by omega, o1.2, o2.2, o3.2⟩) _ _ hd' hB
        · refine ng2 (hF ?_ _ _ _ _)
          cases e3 : rdN c t q2 59 with
          | none => rfl
          | some v3 => exact if_neg (fun o => hno _ _ e3 ⟨by omega, o.2.2.2⟩)
      · intro J87 h87
        refine ng (h87 _ _ (ng2 (hF ?_ _ _ _ _)))
        cases e2 : rdN c t q1 44 with
        | none => rfl
        | some v2 =>
          dsimp only
          cases e3 : rdN c t v2.2 59 with
          | none => rfl
          | some v3 => exact if_neg (fun o => hno _ _ e2 ⟨by omega, o.2.2.1⟩)
    · intro J69 h69
      refine ng (h69 _ _ ?_)
      intro J87 h87
      refine ng (h87 _ _ (ng2 (hF ?_ _ _ _ _)))
      cases e1 : rdN c t (k + 1) 44 with
      | none => rfl
      | some v1 =>
        dsimp only
        cases e2 : rdN c t v1.2 44 with
        | none => rfl
        | some v2 =>
          dsimp only
          cases e3 : rdN c t v2.2 59 with
          | none => rfl
          | some v3 => exact if_neg (fun o => hno _ _ e1 ⟨by omega, o.2.1⟩)
  · subst y
    rw [if_neg (by omega), if_neg (by omega), if_neg (by omega), if_pos rfl] at hJ hF
    refine p_number9 (lo := 1) (hi := 20) (e := 59) (Rg := fun v => 1 ≤ v ∧ v ≤ 20) h hV (by omega) (by omega) (by omega) (in2 1 20 (by omega) (by omega)) (fun a q1 e1 o1 => ?_) (fun hno a => ?_)
    · have s1 := rdN_s (by omega) e1
      rw [e1] at hJ hF
      dsimp only at hJ hF
      rw [pk_us]
      refine ⟨vl 2 _ (by omega) (by omega), vl 2 _ (by omega) (by omega), ?_⟩
      rw [if_neg (show ¬ nI a ≤ 0 from nI_nle (by omega) (by omega))]
      refine hJ _ _ _ (if_pos o1) _ _ ?_ hB
      obtain ⟨u0, u1, u2, u3, u9, u15, u21, u29⟩ := hT
      refine ⟨?_, ?_, ?_, fun p hp => ?_, fun p hp => ?_, fun p hp => ?_, fun n hn => ?_, fun n hn => ?_⟩
      · rw [pk_un (by omega)]; exact u0
      · rw [pk_un (by omega)]; exact u1
      · rw [pk_us]; rfl
      · rw [pk_un (by omega)]; exact u3 p hp
      · rw [pk_un (by omega)]; exact u9 p hp
      · rw [pk_un (by omega)]; exact u15 p hp
      · rw [pk_un (by omega)]; exact u21 n hn
      · rw [pk_un (by omega)]; exact u29 n hn
    · rw [pk_us]
      refine ⟨vl 2 _ (by omega) (by omega), vl 2 _ (by omega) (by omega), ?_⟩
      rw [if_pos (show (-1 : Int32) ≤ 0 by decide)]
      refine hF ?_ _ _ _ _
      cases e1 : rdN c t (k + 1) 59 with
      | none => rfl
      | some v1 => exact if_neg (fun o => hno _ _ e1 o)
  · rw [if_neg y3, if_neg y2, if_neg y1, if_neg y4] at hF
    exact hF rfl _ _ _ _
