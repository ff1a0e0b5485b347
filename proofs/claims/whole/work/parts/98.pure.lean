/-! joint steps: write, see, fault, pass -/
theorem st_write {c : Nat} {t : Nat → Nat} {len typed x : Int32} {ls text : Nat → Int32} {K : Int32 → Int32 → Int32 → (Nat → Int32) → Int32 → (Nat → Int32) → Prop} (h8 : rX len ls c t) (h9 : rX typed text c t) (hV : XV c t) (hK : ∀ r len' ls' typed' text' c' t', rX len' ls' c' t' → rX typed' text' c' t' → XV c' t' → K r r len' ls' typed' text') : wpX8_write len ls x (fun r len' ls' => wpX9_write typed text x (fun r' typed' text' => K r r' len' ls' typed' text')) := by
  refine c_write h8 (fun e => ?_) (fun a e e2 => ?_) (fun a e e2 g hg => ?_)
  · exact r_write h9 (fun _ => hK _ _ _ _ _ _ _ h8 h9 hV) (fun a q => by rw [e] at q; cases q) (fun a q => by rw [e] at q; cases q)
  · exact r_write h9 (fun q => by rw [e] at q; cases q) (fun _ _ _ => hK _ _ _ _ _ _ _ h8 h9 hV) (fun a _ q => by omega)
  · refine r_write h9 (fun q => by rw [e] at q; cases q) (fun _ _ q => by omega) (fun a' q _ g' hg' => ?_)
    rw [e] at q
    cases q
    have := rx_some e
    exact hK _ _ _ _ _ _ _ hg hg' (hV.add this.1 this.2.1)
theorem st_see {P : aP} {c : Nat} {g : Nat → Nat × Nat × Nat × Nat} {np nn q many sights : Int32} {kinds beds foods pu pe told ps ns ds vs seen seenD : Nat → Int32} {x y z u : Int32} {K : Int32 → Int32 → Int32 → (Nat → Int32) → (Nat → Int32) → (Nat → Int32) → (Nat → Int32) → Int32 → (Nat → Int32) → (Nat → Int32) → Prop} (hP : PV1 P) (hR : rPt P np nn q kinds beds foods pu pe) (hT : rT P told) (h8 : rG many ps ns ds vs c g) (h9 : rG9 sights seen seenD c g) (hV : GV P c g) (hK : ∀ r m a b e f sg s1 s2 c' g', rG m a b e f c' g' → rG9 sg s1 s2 c' g' → GV P c' g' → K r r m a b e f sg s1 s2) : wpX8_see np nn many ps ns ds vs x y z u (fun r m a b e f => wpX9_see sights told seen seenD x y z u (fun r' sg s1 s2 => K r r' m a b e f sg s1 s2)) := by
  rw [hR.1, hR.2.1]
  refine c_see hP h8 (fun e => ?_) (fun v e e2 => ?_) (fun v e e2 a b e' f hg => ?_)
  · exact r_see hP hT h9 (fun _ => hK _ _ _ _ _ _ _ _ _ _ _ h8 h9 hV) (fun v q => by rw [e] at q; cases q) (fun v q => by rw [e] at q; cases q)
  · exact r_see hP hT h9 (fun q => by rw [e] at q; cases q) (fun _ _ _ => hK _ _ _ _ _ _ _ _ _ _ _ h8 h9 hV) (fun v' _ q => by omega)
  · refine r_see hP hT h9 (fun q => by rw [e] at q; cases q) (fun _ _ q => by omega) (fun v' q _ s1 s2 hg' => ?_)
    rw [e] at q
    cases q
    exact hK _ _ _ _ _ _ _ _ _ _ _ hg hg' (hV.add hP e)
theorem st_fault {len typed : Int32} {ls text nums kinds beds foods pu pe dr bg : Nat → Int32} {rows : Nat → Int64} {c : Nat} {t : Nat → Nat} {K : Int32 → Int32 → (Nat → Int32) → Int32 → Int32 → Int32 → (Nat → Int32) → (Nat → Int32) → (Nat → Int32) → (Nat → Int32) → (Nat → Int32) → (Nat → Int64) → Int32 → Int32 → (Nat → Int32) → (Nat → Int32) → Prop} (h8 : rX len ls c t) (h9 : rX typed text c t) (hV : XV c t) (hK : ∀ r n a1 a2 a3 a4 a5 a6 a7 a8 a9 w at' d b, K r r n a1 a2 a3 a4 a5 a6 a7 a8 a9 w at' d b) : wpX8_fault len ls nums kinds beds foods pu pe rows (fun r n a1 a2 a3 a4 a5 a6 a7 a8 a9 => wpX9_fault typed text dr bg (fun r' w at' d b => K r r' n a1 a2 a3 a4 a5 a6 a7 a8 a9 w at' d b)) :=
  c_fault h8 hV (fun _ _ _ _ _ _ _ _ _ _ => r_fault h9 hV (fun _ _ _ _ => hK _ _ _ _ _ _ _ _ _ _ _ _ _ _ _))
