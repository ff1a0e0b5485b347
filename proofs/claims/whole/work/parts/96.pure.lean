/-! pure: the start of the class: a letter added, the text read -/
theorem c_initAdd {ls : Nat → Int32} {k : Nat} {len : Int32} {K : Int32 → (Nat → Int32) → Prop} (hk : k < 121) (h : rX len ls k t00) (hK : ∀ ls', rX (nI (k + 1)) ls' (k + 1) t00 → K (nI (k + 1)) ls') : wpX6_add len ls (nI (t00 k)) K := by
  obtain ⟨h1, h2, h3⟩ := h
  unfold wpX6_add
  rw [h1]
  refine it_le (a := 200) (by omega) (by omega) (fun y => absurd y (by omega)) (fun _ => ?_)
  refine p_put (by omega) (by decide) ?_
  rw [nI_1]
  refine hK _ ⟨rfl, by omega, fun j hj => ?_⟩
  by_cases e : j = k
  · subst e; exact pk_us
  · rw [pk_un e]; exact h3 j (by omega)
theorem rX_0 {ls : Nat → Int32} {t : Nat → Nat} : rX 0 ls 0 t := ⟨rfl, by omega, fun k hk => absurd hk (by omega)⟩
theorem c_initEnd {len : Int32} {ls nums kinds beds foods pu pe nf : Nat → Int32} {rows nr : Nat → Int64} {K : (Nat → Int32) → Int32 → Int32 → Int32 → (Nat → Int32) → (Nat → Int32) → (Nat → Int32) → (Nat → Int32) → (Nat → Int32) → (Nat → Int64) → Int32 → Int32 → (Nat → Int64) → (Nat → Int32) → Int32 → Prop} (h : rX len ls 121 t00)
    (hK : ∀ nums np nn q a b f u e r r2 g, rPt fP11 np nn q a b f u e → rW r fw8 → rW r2 fw8 → rD g (fun _ _ => 0) → K nums np nn q a b f u e r 0 0 r2 g 0) :
    wpX6_readInto len ls nums kinds beds foods pu pe rows (fun _ n' np nn q a b f u e r => wpX5_begin nr nf r (fun nd nl nr' nf' => wpX6_clear (fun len' => K n' np nn q a b f u e r nd nl nr' nf' len'))) := by
  have e4 : (rdT 121 t00).1 = -4 := by rw [rdT_first]
  refine p_readInto h XV_00 (fun _ n' np nn q a b f u e r hR hr => ?_) (fun q => absurd e4 q)
  rw [rdT_first] at hR hr
  refine p_begin hr ?_
  intro r2 g hr2 hg
  exact hK n' np nn q a b f u e r r2 g hR hr hr2 hg
/-! joint steps: the calls that only ask -/
theorem st_name {P : aP} {np nn q : Int32} {kinds beds foods pu pe told : Nat → Int32} {x y : Int32} {K : Int32 → Int32 → Prop} (hP : PV1 P) (hR : rPt P np nn q kinds beds foods pu pe) (hT : rT P told) (hK : ∀ r, K r r) : wpX8_name nn pu pe x y (fun r => wpX9_name told x y (fun r' => K r r')) := by
  rw [hR.2.1]
  exact c_name hP hR (r_name hP hT (hK _))
theorem st_stout {P : aP} {w : aW} {st : aT} {d l : Int32} {np nn q : Int32} {kinds beds foods pu pe told f s : Nat → Int32} {x y : Int32} {K : Int32 → Int32 → Prop} (hP : PV1 P) (hR : rPt P np nn q kinds beds foods pu pe) (hf : rD f st) (hT : rT P told) (hs : rS s w st d l) (hK : ∀ r, K r r) : wpX8_stout np nn f x y (fun r => wpX9_stout told s x y (fun r' => K r r')) := by
  rw [hR.1, hR.2.1]
  exact c_stout hP hf (r_stout hP hT hs (hK _))
theorem st_calls {P : aP} {w : aW} {st : aT} {d l : Int32} {np nn q : Int32} {kinds beds foods pu pe told s : Nat → Int32} {rows : Nat → Int64} {x y z : Int32} {K : Int32 → Int32 → Prop} (hP : PV1 P) (hR : rPt P np nn q kinds beds foods pu pe) (hr : rW rows w) (hT : rT P told) (hs : rS s w st d l) (hK : ∀ r, K r r) : wpX8_calls np nn rows x y z (fun r => wpX9_calls told s x y z (fun r' => K r r')) := by
  rw [hR.1, hR.2.1]
  exact c_calls hP hr (r_calls hP hT hs (hK _))
theorem st_whose {P : aP} {w : aW} {st : aT} {d l : Int32} {np nn q : Int32} {kinds beds foods pu pe told s : Nat → Int32} {rows : Nat → Int64} {x y : Int32} {K : Int32 → Int32 → Prop} (hP : PV1 P) (hS : SV P w st) (hR : rPt P np nn q kinds beds foods pu pe) (hr : rW rows w) (hT : rT P told) (hs : rS s w st d l) (hK : ∀ r, K r r) : wpX8_whose np nn rows x y (fun r => wpX9_whose told s x y (fun r' => K r r')) := by
  rw [hR.1, hR.2.1]
  exact c_whose hP hr (r_whose hP hS.1 hT hs (hK _))
theorem st_person {P : aP} {w : aW} {st : aT} {d l : Int32} {np nn q hk hb hf : Int32} {hw : Int64} {hs kinds beds foods pu pe told f s : Nat → Int32} {rows : Nat → Int64} {x y : Int32} {K : Int32 → Int32 → Int32 → Int32 → Int32 → Int64 → (Nat → Int32) → Prop} (hP : PV1 P) (hS : SV P w st) (hR : rPt P np nn q kinds beds foods pu pe) (hr : rW rows w) (hd : rD f st) (hT : rT P told) (h9 : rS s w st d l) (hK : ∀ r a b c e g, K r r a b c e g) : wpX8_person np kinds beds foods pe rows f hk hb hf hw hs x y (fun r a b c e g => wpX9_person told s x y (fun r' => K r r' a b c e g)) := by
  exact c_person hP hR hr hd hS.2.1 hS.2.2.1 (fun _ _ _ _ _ => r_person hP hT h9 hS.2.1 (hK _ _ _ _ _ _))
theorem st_load {P : aP} {w : aW} {st : aT} {d l : Int32} {np nn q hk hb hf : Int32} {hw : Int64} {hs kinds beds foods pu pe told f s : Nat → Int32} {rows : Nat → Int64} {x y : Int32} {K : Int32 → Int32 → Int32 → Int32 → Int32 → Int64 → (Nat → Int32) → Prop} (hP : PV1 P) (hS : SV P w st) (hR : rPt P np nn q kinds beds foods pu pe) (hr : rW rows w) (hd : rD f st) (hT : rT P told) (h9 : rS s w st d l) (hK : ∀ r a b c e g, K r r a b c e g) : wpX8_load np kinds beds foods pu pe rows f hk hb hf hw hs x y (fun r a b c e g => wpX9_load told s x y (fun r' => K r r' a b c e g)) :=
  c_load hP hR hr hd hS.2.1 hS.2.2.1 (fun _ _ _ _ _ => r_load hP hT h9 hS.2.1 (hK _ _ _ _ _ _))
theorem st_rooms {P : aP} {w : aW} {st : aT} {d l : Int32} {np nn q hk hb hf : Int32} {hw : Int64} {hs kinds beds foods pu pe told f s : Nat → Int32} {rows : Nat → Int64} {x : Int32} {K : Int32 → Int32 → Int32 → Int32 → Int32 → Int64 → (Nat → Int32) → Prop} (hP : PV1 P) (hS : SV P w st) (hR : rPt P np nn q kinds beds foods pu pe) (hr : rW rows w) (hd : rD f st) (hT : rT P told) (h9 : rS s w st d l) (hK : ∀ r a b c e g, K r r a b c e g) : wpX8_rooms np nn q kinds beds foods pu rows f hk hb hf hw hs x (fun r a b c e g => wpX9_rooms told s x (fun r' => K r r' a b c e g)) :=
  c_rooms hP hR hr hd hS.2.1 (fun _ _ _ _ _ => r_rooms hP hT h9 hS (hK _ _ _ _ _ _))
