/-! joint steps: pass, say, mend -/
theorem st_pass {P : aP} {w : aW} {st : aT} {d l wo known : Int32} {c : Nat} {F : Nat → aS} {np nn q held next nd nl hk hb hf : Int32} {hw : Int64} {hs kinds beds foods pu pe f days nob told s past : Nat → Int32} {rows : Nat → Int64} {br : Nat → Nat → Int64} {bs : Nat → Nat → Int32} {x : Int32} {K : Int32 → Int32 → Int32 → Int32 → Int32 → Int32 → (Nat → Int32) → Int32 → Int32 → Int32 → Int64 → (Nat → Int32) → (Nat → Nat → Int64) → (Nat → Nat → Int32) → (Nat → Int32) → (Nat → Int32) → Int32 → Int32 → (Nat → Int32) → (Nat → Int32) → Prop}
    (hP : PV1 P) (hS : SV P w st) (hF : ∀ k, k < c → SV P (F k).1 (F k).2.1) (hR : rPt P np nn q kinds beds foods pu pe) (hr : rW rows w) (hd : rD f st) (e1 : nd = d) (e2 : nl = l) (hp : rPile 8 held next br bs days nob c F) (hT : rT P told) (h9 : rS s w st d l) (hk9 : known = nI c) (hp9 : rIm 8 past c F)
    (hK : ∀ r held' next' nd' nl' f' a b e g h2 br' bs' days' nob' kn wo' s' past' st' d' l' c' F', SV P w st' → (∀ k, k < c' → SV P (F' k).1 (F' k).2.1) → rD f' st' → nd' = d' → nl' = l' → rPile 8 held' next' br' bs' days' nob' c' F' → rS s' w st' d' l' → kn = nI c' → rIm 8 past' c' F' → K r r held' next' nd' nl' f' a b e g h2 br' bs' days' nob' kn wo' s' past') :
    wpX8_pass held next nd nl rows f np nn q kinds beds foods pu pe hk hb hf hw hs br bs days nob x (fun r a1 a2 a3 a4 a5 a6 a7 a8 a9 b1 b2 b3 b4 b5 => wpX9_pass known wo told s past x (fun r' kn wo' s' past' => K r r' a1 a2 a3 a4 a5 a6 a7 a8 a9 b1 b2 b3 b4 b5 kn wo' s' past')) := by
  subst e1; subst e2; subst hk9
  cases e : rx 1 20 x with
  | none => exact c_pass0 (P := P) e (r_pass0 e (hK _ _ _ _ _ _ _ _ _ _ _ _ _ _ _ _ _ _ _ _ _ _ _ _ hS hF hd rfl rfl hp h9 rfl hp9))
  | some n =>
    refine c_pass1 hP hR hr hd hS e hp (fun held' next' f' a b e' g g2 br' bs' days' nob' hp' hd' => ?_)
    refine r_pass1 hP hT h9 hS e hp9 (fun wo' s' past' hi hs' => ?_)
    exact hK _ _ _ _ _ _ _ _ _ _ _ _ _ _ _ _ _ _ _ _ _ _ _ _ (hS.days n) (SV_push hF hS) hd' rfl rfl hp' hs' rfl hi
theorem st_say {P : aP} {w : aW} {st : aT} {d l known : Int32} {c : Nat} {F : Nat → aS} {np nn q held next nd nl : Int32} {kinds beds foods pu pe f days nob told s past : Nat → Int32} {rows : Nat → Int64} {br : Nat → Nat → Int64} {bs : Nat → Nat → Int32} {x y z : Int32} {K : Int32 → Int32 → Int32 → Int32 → (Nat → Int64) → (Nat → Nat → Int64) → (Nat → Nat → Int32) → (Nat → Int32) → (Nat → Int32) → Int32 → (Nat → Int32) → (Nat → Int32) → Prop}
    (hP : PV1 P) (hS : SV P w st) (hF : ∀ k, k < c → SV P (F k).1 (F k).2.1) (hR : rPt P np nn q kinds beds foods pu pe) (hr : rW rows w) (hd : rD f st) (e1 : nd = d) (e2 : nl = l) (hp : rPile 8 held next br bs days nob c F) (hT : rT P told) (h9 : rS s w st d l) (hk9 : known = nI c) (hp9 : rIm 8 past c F)
    (hK : ∀ r held' next' rows' br' bs' days' nob' kn s' past' w' c' F', SV P w' st → (∀ k, k < c' → SV P (F' k).1 (F' k).2.1) → rW rows' w' → rPile 8 held' next' br' bs' days' nob' c' F' → rS s' w' st d l → kn = nI c' → rIm 8 past' c' F' → K r r held' next' rows' br' bs' days' nob' kn s' past') :
    wpX8_say held next nd nl rows f np nn br bs days nob x y z (fun r a1 a2 a3 a4 a5 a6 a7 => wpX9_say known told s past x y z (fun r' kn s' past' => K r r' a1 a2 a3 a4 a5 a6 a7 kn s' past')) := by
  subst e1; subst e2; subst hk9
  rw [hR.1, hR.2.1]
  cases e : iW P x y z with
  | none => exact c_say0 hP e (r_say hP hT h9 hS hp9 (fun _ => hK _ _ _ _ _ _ _ _ _ _ _ _ _ _ hS hF hr hp h9 rfl hp9) (fun v e2 => by rw [e] at e2; cases e2) (fun v e2 => by rw [e] at e2; cases e2))
  | some v =>
    by_cases hf : w v.1 v.2.1 v.2.2 = true ∨ tot w < 12
    · refine c_say2 hP hr hd e hf hp (fun held' next' rows' br' bs' days' nob' hp' hr' => ?_)
      refine r_say hP hT h9 hS hp9 (fun e2 => by rw [e] at e2; cases e2) (fun v2 e2 hn => ?_) (fun v2 e2 _ s' past' hi hs' => ?_)
      · rw [e] at e2; cases e2; exact absurd hf hn
      · rw [e] at e2
        cases e2
        have hq := iW_s hP e
        exact hK _ _ _ _ _ _ _ _ _ _ _ _ _ _ (hS.flip hP.1.1 hP.1.2.1 hq.1 hq.2.1 hq.2.2.1 hq.2.2.2.1 hf) (SV_push hF hS) hr' hp' hs' rfl hi
    · refine c_say1 hP hr e hf ?_
      refine r_say hP hT h9 hS hp9 (fun e2 => by rw [e] at e2; cases e2) (fun v2 e2 hn => hK _ _ _ _ _ _ _ _ _ _ _ _ _ _ hS hF hr hp h9 rfl hp9) (fun v2 e2 hy => ?_)
      rw [e] at e2
      cases e2
      exact absurd hy hf
theorem st_mend {P : aP} {w : aW} {st : aT} {d l known : Int32} {c : Nat} {F : Nat → aS} {np nn q held next nd nl : Int32} {kinds beds foods pu pe f days nob told s past : Nat → Int32} {rows : Nat → Int64} {br : Nat → Nat → Int64} {bs : Nat → Nat → Int32} {x : Int32} {K : Int32 → Int32 → Int32 → Int32 → (Nat → Int32) → (Nat → Nat → Int64) → (Nat → Nat → Int32) → (Nat → Int32) → (Nat → Int32) → Int32 → (Nat → Int32) → (Nat → Int32) → Prop}
    (hP : PV1 P) (hS : SV P w st) (hF : ∀ k, k < c → SV P (F k).1 (F k).2.1) (hR : rPt P np nn q kinds beds foods pu pe) (hr : rW rows w) (hd : rD f st) (e1 : nd = d) (e2 : nl = l) (hp : rPile 8 held next br bs days nob c F) (hT : rT P told) (h9 : rS s w st d l) (hk9 : known = nI c) (hp9 : rIm 8 past c F)
    (hK : ∀ r held' next' f' br' bs' days' nob' kn s' past' st' c' F', SV P w st' → (∀ k, k < c' → SV P (F' k).1 (F' k).2.1) → rD f' st' → rPile 8 held' next' br' bs' days' nob' c' F' → rS s' w st' d l → kn = nI c' → rIm 8 past' c' F' → K r r held' next' f' br' bs' days' nob' kn s' past') :
    wpX8_mend held next nd nl rows f np br bs days nob x (fun r a1 a2 a3 a4 a5 a6 a7 => wpX9_mend known told s past x (fun r' kn s' past' => K r r' a1 a2 a3 a4 a5 a6 a7 kn s' past')) := by
  subst e1; subst e2; subst hk9
  rw [hR.1]
  cases e : iP P x with
  | none => exact c_mend0 hP e (r_mend hP hT h9 hS.2.1 hp9 (fun _ => hK _ _ _ _ _ _ _ _ _ _ _ _ _ _ hS hF hd hp h9 rfl hp9) (fun v e2 => by rw [e] at e2; cases e2))
  | some p =>
    refine c_mend1 hP hr hd hS.2.1 e hp (fun held' next' f' br' bs' days' nob' hp' hd' => ?_)
    refine r_mend hP hT h9 hS.2.1 hp9 (fun e2 => by rw [e] at e2; cases e2) (fun p2 e2 s' past' hi hs' => ?_)
    rw [e] at e2
    cases e2
    exact hK _ _ _ _ _ _ _ _ _ _ _ _ _ _ hS.thin (SV_push hF hS) hd' hp' hs' rfl hi
