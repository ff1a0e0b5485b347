/-! joint steps: pass, say, mend -/
theorem st_pass {P : aP} {w : aW} {st : aT} {d l wo known : Int32} {c : Nat} {F : Nat → aS} {np nn q held next nd nl hk hb hf : Int32} {hw : Int64} {hs kinds beds foods pu pe f days nob told s past : Nat → Int32} {rows : Nat → Int64} {br : Nat → Nat → Int64} {bs : Nat → Nat → Int32} {x : Int32} {K : Int32 → Int32 → Int32 → Int32 → Int32 → Int32 → (Nat → Int32) → Int32 → Int32 → Int32 → Int64 → (Nat → Int32) → (Nat → Nat → Int64) → (Nat → Nat → Int32) → (Nat → Int32) → (Nat → Int32) → Int32 → Int32 → (Nat → Int32) → (Nat → Int32) → Prop}
    (hP : PV1 P) (hS : SV P w st) (hF : ∀ k, k < c → SV P (F k).1 (F k).2.1) (hR : rPt P np nn q kinds beds foods pu pe) (hr : rW rows w) (hd : rD f st) (e1 : nd = d) (e2 : nl = l) (hp : rPile 8 held next br bs days nob c F) (hT : rT P told) (h9 : rS s w st d l) (hk9 : known = nI c) (hp9 : rIm 8 past c F)
    (hK : ∀ r held' next' nd' nl' f' a b e g h2 br' bs' days' nob' kn wo' s' past' st' d' l' c' F', SV P w st' → (∀ k, k < c' → SV P (F' k).1 (F' k).2.1) → rD f' st' → nd' = d' → nl' = l' → rPile 8 held' next' br' bs' days' nob' c' F' → rS s' w st' d' l' → kn = nI c' → rIm 8 past' c' F' → K r r held' next' nd' nl' f' a b e g h2 br' bs' days' nob' kn wo' s' past') :
    wpX8_pass held next nd nl rows f np nn q kinds beds foods pu pe hk hb hf hw hs br bs days nob x (fun r a1 a2 a3 a4 a5 a6 a7 a8 a9 b1 b2 b3 b4 b5 => wpX9_pass known wo told s past x (fun r' kn wo' s' past' => K r r' a1 a2 a3 a4 a5 a6 a7 a8 a9 b1 b2 b3 b4 b5 kn wo' s' past')) := by
  subst e1; subst e2; subst hk9
  cases e : rx 1 20 x with
  | none => exact c_pass0 (P := P) e (r_pass0 e (hK _ _ _ _ _ _ _ _ _ _ _ _ _ _ _ _ _ _ _ _ _ _ _ _ hS hF hd rfl rfl hp h9 rfl hp9))
  | some n =>
    refine c_pass1 hP hR hr hd hS e hp (fun held' next' f' a b e' g g2 br' bs' days' nob' hp' hd' => ?_)
    refine r_pass1 hP hT h9 hS e hp9 (fun wo' s' past' hi hs' => ?_)
    exact hK _ _ _ _ _ _ _ _ _ _ _ _ _ _ _ _ _ _ _ _ _ _ _ _ (hS.days n) (SV_push hF hS) hd' rfl rfl hp' hs' rfl hi
theorem st_say {P : aP} {w : aW} {st : aT} {d l known : Int32} {c : Nat} {F : Nat → aS} {np nn q held next nd nl : Int32} {kinds beds foods pu pe f days nob told s past : Nat → Int32} {rows : Nat → Int64} {br : Nat → Nat → Int64} {bs : Nat → Nat → Int32} {x y z : Int32} {K : Int32 → Int32 → Int32 → Int32 → (Nat → Int64) → (Nat → Nat → Int64) → (Nat → Nat → Int32) → (Nat → Int32) → (Nat → Int32) → Int32 → (Nat → Int32) → (Nat → Int32) → Prop}
    (hP : PV1 P) (hS : SV P w st) (hF : ∀ k, k < c → SV P (F k).1 (F k).2.1) (hR : rPt P np nn q kinds beds foods pu pe) (hr : rW rows w) (hd : rD f st) (e1 : nd = d) (e2 : nl = l) (hp : rPile 8 held next br bs days nob c F) (hT : rT P told) (h9 : rS s w st d l) (hk9 : known = nI c) (hp9 : rIm 8 past c F)
    (hK : ∀ r held' next' rows' br' bs' days' nob' kn s' past' w' c' F', SV P w' st → (∀ k, k < c' → SV P (F' k).1 (F' k).2.1) → rW rows' w' → rPile 8 held' next' br' bs' days' nob' c' F' → rS s' w' st d l → kn = nI c' → rIm 8 past' c' F' → K r r held' next' rows' br' bs' days' nob' kn s' past') :
    wpX8_say held next nd nl rows f np nn br bs days nob x y z (fun r a1 a2 a3 a4 a5 a6 a7 => wpX9_say known told s past x y z (fun r' kn s' past' => K r r' a1 a2 a3 a4 a5 a6 a7 kn s' past')) := by
  subst e1; subst e2; subst hk9
  rw [hR.1, hR.2.1]
  cases e : iW P x y z with
  | none => exact c_say0 hP e (r_say hP hT h9 hS hp9 (fun _ => hK _ _ _ _ _ _ _ _ _ _ _ _ _ _ hS hF hr hp h9 rfl hp9) (fun v e2 => by rw [e] at e2; cases e2) (fun v e2 => by rw [e] at e2; cases e2))
  | some v =>
    by_cases hf : w v.1 v.2.1 v.2.2 = true ∨ tot w < 12
    · refine c_say2 hP hr hd e hf hp (fun held' next' rows' br' bs' days' nob' hp' hr' => ?_)
      refine r_say hP hT h9 hS hp9 (fun e2 => by rw [e] at e2; cases e2) (fun v2 e2 hn => ?_) (fun v2 e2 _ s' past' hi hs' => ?_)
      · rw [e] at e2; cases e2; exact absurd hf hn
      · rw [e] at e2
        cases e2
        have hq := iW_s hP e
        exact hK _ _ _ _ _ _ _ _ _ _ _ _ _ _ (hS.flip hP.1.1 hP.1.2.1 hq.1 hq.2.1 hq.2.2.1 hq.2.2.2.1 hf) (SV_push hF hS) hr' hp' hs' rfl hi
    · refine c_say1 hP hr e hf ?_
      refine r_say hP hT h9 hS hp9 (fun e2 => by rw [e] at e2; cases e2) (fun v2 e2 hn => hK _ _ _ _ _ _ _ _ _ _ _ _ _ _ hS hF hr hp h9 rfl hp9) (fun v2 e2 hy => ?_)
      rw [e] at e2
      cases e2
      exact absurd hy hf
theorem st_mend {P : aP} {w : aW} {st : aT} {d l known : Int32} {c : Nat} {F : Nat → aS} {np nn q held next nd nl : Int32} {kinds beds foods pu pe f days nob told s past : Nat → Int32} {rows : Nat → Int64} {br : Nat → Nat → Int64} {bs : Nat → Nat → Int32} {x : Int32} {K : Int32 → Int32 → Int32 → Int32 → (Nat → Int32) → (Nat → Nat → Int64) → (Nat → Nat → Int32) → (Nat → Int32) → (Nat → Int32) → Int32 → (Nat → Int32) → (Nat → Int32) → Prop}
    (hP : PV1 P) (hS : SV P w st) (hF : ∀ k, k < c → SV P (F k).1 (F k).2.1) (hR : rPt P np nn q kinds beds foods pu pe) (hr : rW rows w) (hd : rD f st) (e1 : nd = d) (e2 : nl = l) (hp : rPile 8 held next br bs days nob c F) (hT : rT P told) (h9 : rS s w st d l) (hk9 : known = nI c) (hp9 : rIm 8 past c F)
    (hK : ∀ r held' next' f' br' bs' days' nob' kn s' past' st' c' F', SV P w st' → (∀ k, k < c' → SV P (F' k).1 (F' k).2.1) → rD f' st' → rPile 8 held' next' br' bs' days' nob' c' F' → rS s' w st' d l → kn = nI c' → rIm 8 past' c' F' → K r r held' next' f' br' bs' days' nob' kn s' past') :
    wpX8_mend held next nd nl rows f np br bs days nob x (fun r a1 a2 a3 a4 a5 a6 a7 => wpX9_mend known told s past x (fun r' kn s' past' => K r r' a1 a2 a3 a4 a5 a6 a7 kn s' past')) := by
  subst e1; subst e2; subst hk9
  rw [hR.1]
  cases e : iP P x with
  | none => exact c_mend0 hP e (r_mend hP hT h9 hS.2.1 hp9 (fun _ => hK _ _ _ _ _ _ _ _ _ _ _ _ _ _ hS hF hd hp h9 rfl hp9) (fun v e2 => by rw [e] at e2; cases e2))
  | some p =>
    refine c_mend1 hP hr hd hS.2.1 e hp (fun held' next' f' br' bs' days' nob' hp' hd' => ?_)
    refine r_mend hP hT h9 hS.2.1 hp9 (fun e2 => by rw [e] at e2; cases e2) (fun p2 e2 s' past' hi hs' => ?_)
    rw [e] at e2
    cases e2
    exact hK _ _ _ _ _ _ _ _ _ _ _ _ _ _ hS.thin (SV_push hF hS) hd' hp' hs' rfl hi
/-! joint steps: undo, keep, back -/
theorem st_undo {P : aP} {w : aW} {st : aT} {d l known : Int32} {c : Nat} {F : Nat → aS} {held next nd nl : Int32} {f days nob s past : Nat → Int32} {rows : Nat → Int64} {br : Nat → Nat → Int64} {bs : Nat → Nat → Int32} {K : Int32 → Int32 → Int32 → Int32 → Int32 → Int32 → (Nat → Int64) → (Nat → Int32) → Int32 → (Nat → Int32) → Prop}
    (hS : SV P w st) (hF : ∀ k, k < c → SV P (F k).1 (F k).2.1) (hr : rW rows w) (hd : rD f st) (e1 : nd = d) (e2 : nl = l) (hp : rPile 8 held next br bs days nob c F) (h9 : rS s w st d l) (hk9 : known = nI c) (hp9 : rIm 8 past c F)
    (hK : ∀ r held' next' nd' nl' rows' f' kn s' w' st' d' l' c' F', SV P w' st' → (∀ k, k < c' → SV P (F' k).1 (F' k).2.1) → rW rows' w' → rD f' st' → nd' = d' → nl' = l' → rPile 8 held' next' br bs days nob c' F' → rS s' w' st' d' l' → kn = nI c' → rIm 8 past c' F' → K r r held' next' nd' nl' rows' f' kn s') :
    wpX8_undo held next nd nl rows f br bs days nob (fun r a1 a2 a3 a4 a5 a6 => wpX9_undo known s past (fun r' kn s' => K r r' a1 a2 a3 a4 a5 a6 kn s')) := by
  subst e1; subst e2; subst hk9
  cases c with
  | zero => exact c_undo0 hp.1 (r_undo0 (hK _ _ _ _ _ _ _ _ _ _ _ _ _ _ _ hS hF hr hd rfl rfl hp h9 rfl hp9))
  | succ c =>
    refine c_undo1 hp (fun b d' l' r g hp' hq => ?_)
    refine r_undo1 hp9 (fun g' hi hs' => ?_)
    obtain ⟨q1, q2, q3, q4⟩ := hq
    exact hK _ _ _ _ _ _ _ _ _ _ _ _ _ _ _ (hF 0 (by omega)) (SV_pop hF) q1 q2 q3 q4 hp' hs' rfl hi
theorem st_keep {P : aP} {w : aW} {st : aT} {d l kept : Int32} {c : Nat} {F : Nat → aS} {held next nd nl : Int32} {f days nob s im : Nat → Int32} {rows : Nat → Int64} {br : Nat → Nat → Int64} {bs : Nat → Nat → Int32} {K : Int32 → Int32 → Int32 → Int32 → (Nat → Nat → Int64) → (Nat → Nat → Int32) → (Nat → Int32) → (Nat → Int32) → Int32 → (Nat → Int32) → Prop}
    (hS : SV P w st) (hF : ∀ k, k < c → SV P (F k).1 (F k).2.1) (hr : rW rows w) (hd : rD f st) (e1 : nd = d) (e2 : nl = l) (hp : rPile 2 held next br bs days nob c F) (h9 : rS s w st d l) (hk9 : kept = nI c) (hp9 : rIm 2 im c F)
    (hK : ∀ r held' next' br' bs' days' nob' kp im' c' F', (∀ k, k < c' → SV P (F' k).1 (F' k).2.1) → rPile 2 held' next' br' bs' days' nob' c' F' → kp = nI c' → rIm 2 im' c' F' → K r r held' next' br' bs' days' nob' kp im') :
    wpX8_keep held next nd nl rows f br bs days nob (fun r a1 a2 a3 a4 a5 a6 => wpX9_keep kept s im (fun r' kp im' => K r r' a1 a2 a3 a4 a5 a6 kp im')) := by
  subst e1; subst e2; subst hk9
  rcases Nat.lt_or_ge c 2 with hc | hc
  · refine c_keep1 (S := (w, st, nd, nl)) hc hp ⟨hr, hd, rfl, rfl⟩ (fun b e f' g i hp' => ?_)
    refine r_keep1 (S := (w, st, nd, nl)) hc hp9 h9 (fun g' hi => ?_)
    refine hK _ _ _ _ _ _ _ _ _ _ _ (fun k hk => ?_) hp' rfl hi
    unfold pushF
    split
    · exact hS
    · exact hF _ (by omega)
  · have h2 := hp.2.1
    have e : c = 2 := by omega
    subst e
    have e3 := hp.1
    subst e3
    exact c_keep0 (r_keep0 (hK _ _ _ _ _ _ _ _ _ _ _ hF hp rfl hp9))
theorem st_back {P : aP} {w : aW} {st : aT} {d l known kept : Int32} {c cb : Nat} {F Fb : Nat → aS} {held next nd nl bh bx : Int32} {f days nob s im past bd bl : Nat → Int32} {rows : Nat → Int64} {br bbr : Nat → Nat → Int64} {bs bbs : Nat → Nat → Int32} {K : Int32 → Int32 → Int32 → Int32 → Int32 → Int32 → (Nat → Int64) → (Nat → Int32) → Int32 → Int32 → Int32 → (Nat → Int32) → Prop}
    (hS : SV P w st) (hF : ∀ k, k < c → SV P (F k).1 (F k).2.1) (hFb : ∀ k, k < cb → SV P (Fb k).1 (Fb k).2.1) (hr : rW rows w) (hd : rD f st) (e1 : nd = d) (e2 : nl = l) (hp : rPile 2 held next br bs days nob c F) (hpb : rPile 8 bh bx bbr bbs bd bl cb Fb) (h9 : rS s w st d l) (hk9 : kept = nI c) (hp9 : rIm 2 im c F) (hkn : known = nI cb) (hpb9 : rIm 8 past cb Fb)
    (hK : ∀ r held' next' nd' nl' rows' f' bh' kn kp s' w' st' d' l' c' F' cb', SV P w' st' → (∀ k, k < c' → SV P (F' k).1 (F' k).2.1) → (∀ k, k < cb' → SV P (Fb k).1 (Fb k).2.1) → rW rows' w' → rD f' st' → nd' = d' → nl' = l' → rPile 2 held' next' br bs days nob c' F' → rPile 8 bh' bx bbr bbs bd bl cb' Fb → rS s' w' st' d' l' → kp = nI c' → rIm 2 im c' F' → kn = nI cb' → rIm 8 past cb' Fb → K r r held' next' nd' nl' rows' f' bh' kn kp s') :
    wpX8_back held next nd nl rows f bh br bs days nob (fun r a1 a2 a3 a4 a5 a6 a7 => wpX9_back known kept s im (fun r' kn kp s' => K r r' a1 a2 a3 a4 a5 a6 a7 kn kp s')) := by
  subst e1; subst e2; subst hk9
  cases c with
  | zero =>
    have e3 := hp.1
    subst e3
    exact c_back0 (r_back0 (hK _ _ _ _ _ _ _ _ _ _ _ _ _ _ _ _ _ _ hS hF hFb hr hd rfl rfl hp hpb h9 rfl hp9 hkn hpb9))
  | succ c =>
    refine c_back1 hp (fun x d' l' r g hp' hq => ?_)
    refine r_back1 hp9 (fun g' hi hs' => ?_)
    obtain ⟨q1, q2, q3, q4⟩ := hq
    obtain ⟨_, _, y, hy, hy2, _⟩ := hpb
    exact hK _ _ _ _ _ _ _ _ _ _ _ _ _ _ _ _ _ 0 (hF 0 (by omega)) (SV_pop hF) (fun k hk => absurd hk (by omega)) q1 q2 q3 q4 hp' ⟨rfl, by omega, y, hy, hy2, fun k hk => absurd hk (by omega)⟩ hs' rfl hi rfl ⟨by omega, fun k hk => absurd hk (by omega)⟩
/-! joint steps: count, lay -/
theorem st_count {P : aP} {w : aW} {st : aT} {d l np nn q nd nl bh kh gm len typed known kept sights : Int32} {cb ck cg c : Nat} {kinds beds foods pu pe f told s : Nat → Int32} {rows : Nat → Int64} {x : Int32} {K : Int32 → Int32 → Prop} (hP : PV1 P) (hS : SV P w st) (hR : rPt P np nn q kinds beds foods pu pe) (hr : rW rows w) (hd : rD f st) (e1 : nd = d) (e2 : nl = l) (e3 : bh = nI cb) (e4 : kh = nI ck) (e5 : gm = nI cg) (e6 : len = nI c) (hT : rT P told) (h9 : rS s w st d l) (f3 : known = nI cb) (f4 : kept = nI ck) (f5 : sights = nI cg) (f6 : typed = nI c) (hK : ∀ r, K r r) : wpX8_count np nn q nd nl rows f bh kh gm len x (fun r => wpX9_count typed known kept sights told s x (fun r' => K r r')) := by
  subst e1; subst e2; subst e3; subst e4; subst e5; subst e6; subst f3; subst f4; subst f5; subst f6
  rw [hR.1, hR.2.1, hR.2.2.1]
  exact c_count (P := P) hS.2.1 hr hd (r_count hP.1 hT h9 hS.2.1 hS.2.2.2.1 (hK _))
theorem st_lay {len typed kn kp sg pp pn pq nd nl bh kh gm : Int32} {ls text nums dk db df du de pk pb pf pu pe nf told dr9 bg s : Nat → Int32} {dr pr nr : Nat → Int64} {c : Nat} {t : Nat → Nat} {K : Int32 → Int32 → (Nat → Int32) → Int32 → Int32 → Int32 → (Nat → Int32) → (Nat → Int32) → (Nat → Int32) → (Nat → Int32) → (Nat → Int32) → (Nat → Int64) → Int32 → Int32 → Int32 → (Nat → Int32) → (Nat → Int32) → (Nat → Int32) → (Nat → Int32) → (Nat → Int32) → (Nat → Int64) → Int32 → Int32 → (Nat → Int64) → (Nat → Int32) → Int32 → Int32 → Int32 → Int32 → Int32 → Int32 → Int32 → Int32 → (Nat → Int32) → (Nat → Int32) → (Nat → Int32) → (Nat → Int32) → Prop} (h8 : rX len ls c t) (h9 : rX typed text c t) (hV : XV c t)
    (h0 : ∀ n a1 a2 a3 a4 a5 a6 a7 a8 a9 x at' d b, K (-2) (-2) n a1 a2 a3 a4 a5 a6 a7 a8 a9 pp pn pq pk pb pf pu pe pr nd nl nr nf bh kh gm x kn kp sg at' told d b s)
    (h1 : ∀ P w r n a1 a2 a3 a4 a5 a6 a7 a8 a9 np nn q b1 b2 b3 b4 b5 r1 r2 f x at' d b tl s', PV1 P → SV P w (fun _ _ => 0) → rPt P np nn q b1 b2 b3 b4 b5 → rW r2 w → rD f (fun _ _ => 0) → rT P tl → rS s' w (fun _ _ => 0) 0 0 → K r r n a1 a2 a3 a4 a5 a6 a7 a8 a9 np nn q b1 b2 b3 b4 b5 r1 0 0 r2 f 0 0 0 x 0 0 0 at' tl d b s') :
    wpX8_lay len ls nums dk db df du de dr pp pn pq pk pb pf pu pe pr nd nl nr nf bh kh gm (fun r n a1 a2 a3 a4 a5 a6 a7 a8 a9 np nn q b1 b2 b3 b4 b5 r1 c1 c2 r2 f c3 c4 c5 => wpX9_lay typed kn kp sg text told dr9 bg s (fun r' x k1 k2 k3 at' tl d b s' => K r r' n a1 a2 a3 a4 a5 a6 a7 a8 a9 np nn q b1 b2 b3 b4 b5 r1 c1 c2 r2 f c3 c4 c5 x k1 k2 k3 at' tl d b s')) := by
  refine c_lay h8 hV (fun o n a1 a2 a3 a4 a5 a6 a7 a8 a9 => ?_) (fun o n a1 a2 a3 a4 a5 a6 a7 a8 a9 np nn q b1 b2 b3 b4 b5 r1 r2 f hR hr1 hr2 hf => ?_)
  · exact r_lay h9 hV (fun _ x a d b => h0 _ _ _ _ _ _ _ _ _ _ _ _ _ _) (fun o2 => absurd o2 o)
  · exact r_lay h9 hV (fun o2 => absurd o o2) (fun _ x a d b tl s' hT hs => h1 _ _ _ _ _ _ _ _ _ _ _ _ _ _ _ _ _ _ _ _ _ _ _ _ _ _ _ _ _ _ (PV1_lay o) SV_lay hR hr2 hf hT hs)
