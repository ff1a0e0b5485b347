/-! pure: what holds between two calls -/
/-- the abstract state: port, words, stoutness, days, no beds; text; sights; undone; kept -/
def INVa (P : aP) (w : aW) (st : aT) (c : Nat) (t : Nat → Nat) (cg : Nat) (g : Nat → Nat × Nat × Nat × Nat) (cb : Nat) (F : Nat → aS) (ck : Nat) (G : Nat → aS) : Prop := PV1 P ∧ SV P w st ∧ XV c t ∧ GV P cg g ∧ (∀ k, k < cb → SV P (F k).1 (F k).2.1) ∧ (∀ k, k < ck → SV P (G k).1 (G k).2.1)
/-- the class's fields stand for it -/
def INV8 (P : aP) (w : aW) (st : aT) (d l : Int32) (c : Nat) (t : Nat → Nat) (cg : Nat) (g : Nat → Nat × Nat × Nat × Nat) (cb : Nat) (F : Nat → aS) (ck : Nat) (G : Nat → aS) (t_len : Int32) (t_ls : Nat → Int32) (pp pn pq : Int32) (pk pb pf pu pe : Nat → Int32) (nd nl : Int32) (nr : Nat → Int64) (nf : Nat → Int32) (bh bx : Int32) (br : Nat → Nat → Int64) (bs : Nat → Nat → Int32) (bd bl : Nat → Int32) (kh kx : Int32) (kr : Nat → Nat → Int64) (ks : Nat → Nat → Int32) (kd kl : Nat → Int32) (gm : Int32) (gp gn gd gs : Nat → Int32) : Prop :=
  rX t_len t_ls c t ∧ rPt P pp pn pq pk pb pf pu pe ∧ (rW nr w ∧ rD nf st ∧ nd = d ∧ nl = l) ∧ rPile 8 bh bx br bs bd bl cb F ∧ rPile 2 kh kx kr ks kd kl ck G ∧ rG gm gp gn gd gs cg g
/-- the reference's fields stand for it -/
def INV9 (P : aP) (w : aW) (st : aT) (d l : Int32) (c : Nat) (t : Nat → Nat) (cg : Nat) (g : Nat → Nat × Nat × Nat × Nat) (cb : Nat) (F : Nat → aS) (ck : Nat) (G : Nat → aS) (typed known kept sights : Int32) (text told s past images seen seenDays : Nat → Int32) : Prop :=
  rX typed text c t ∧ rT P told ∧ rS s w st d l ∧ (known = nI cb ∧ rIm 8 past cb F) ∧ (kept = nI ck ∧ rIm 2 images ck G) ∧ rG9 sights seen seenDays cg g
theorem pushC_lt {N c : Nat} (h : c ≤ N) : pushC N c ≤ N := by unfold pushC; split <;> omega
theorem SV_push {P : aP} {N c : Nat} {F : Nat → aS} {S : aS} (hc : ∀ k, k < c → SV P (F k).1 (F k).2.1) (hS : SV P S.1 S.2.1) : ∀ k, k < pushC N c → SV P (pushF S F k).1 (pushF S F k).2.1 := by
  intro k hk
  unfold pushF
  split
  · exact hS
  · refine hc _ ?_
    unfold pushC at hk
    split at hk <;> omega
theorem SV_pop {P : aP} {c : Nat} {F : Nat → aS} (hc : ∀ k, k < c + 1 → SV P (F k).1 (F k).2.1) : ∀ k, k < c → SV P (F (k + 1)).1 (F (k + 1)).2.1 := fun k hk => hc (k + 1) (by omega)
theorem INVa_first : INVa fP11 fw8 (fun _ _ => 0) 0 t00 0 (fun _ => (0, 0, 0, 0)) 0 (fun _ => (w00, fun _ _ => 0, 0, 0)) 0 (fun _ => (w00, fun _ _ => 0, 0, 0)) := by
  have v := rdA_V (c := 121) (t := t00) 200 0 P00 w00 PV_00 WV_00
  have e : rdA 121 t00 200 0 P00 w00 = (-4, fP11, fw8) := rdT_first
  rw [e] at v
  refine ⟨⟨v.1, by decide +kernel, by decide +kernel⟩, ⟨v.2, fun _ _ => by show 0 < 10; omega, fun _ _ _ => rfl, fun _ _ _ => rfl, fun _ _ _ => rfl⟩, fun k hk => absurd hk (by omega), fun k hk => absurd hk (by omega), fun k hk => absurd hk (by omega), fun k hk => absurd hk (by omega)⟩
