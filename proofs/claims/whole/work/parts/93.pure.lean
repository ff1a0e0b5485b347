/-! pure: the first TEXT (written by gen/first.py) -/
def t00L : List Nat := [112, 48, 44, 50, 44, 54, 59, 112, 49, 44, 50, 44, 49, 50, 59, 112, 50, 44, 50, 44, 57, 59, 112, 51, 44, 49, 44, 53, 59, 112, 52, 44, 51, 44, 56, 59, 110, 51, 44, 50, 59, 110, 57, 44, 52, 59, 110, 49, 44, 49, 59, 110, 49, 52, 44, 51, 59, 110, 54, 44, 53, 59, 99, 48, 44, 49, 44, 48, 59, 99, 49, 44, 48, 44, 51, 59, 99, 50, 44, 49, 44, 49, 59, 99, 48, 44, 50, 44, 50, 59, 99, 51, 44, 50, 44, 52, 59, 99, 52, 44, 49, 44, 48, 59, 99, 49, 44, 51, 44, 49, 59, 99, 48, 44, 52, 44, 49, 59, 113, 54, 59]
def t00 (k : Nat) : Nat := t00L.getD k 32
theorem XV_00 : XV 121 t00 := by
  have : ∀ k, k < 121 → 32 ≤ t00 k ∧ t00 k ≤ 126 := by decide +kernel
  exact this
theorem rdI_p {c : Nat} {t : Nat → Nat} {k a b f k1 k2 k3 : Nat} {P : aP} {w : aW} (h : lt c t k = 112) (e1 : rdN c t (k + 1) 44 = some (a, k1)) (e2 : rdN c t k1 44 = some (b, k2)) (e3 : rdN c t k2 59 = some (f, k3)) (o : okP P a b f) : rdI c t k P w = some (k3, tlP P a b f, w) := by
  unfold rdI
  rw [if_pos h, e1]
  dsimp only
  rw [e2]
  dsimp only
  rw [e3]
  exact if_pos o
theorem rdI_n {c : Nat} {t : Nat → Nat} {k a b k1 k2 : Nat} {P : aP} {w : aW} (h : lt c t k = 110) (e1 : rdN c t (k + 1) 44 = some (a, k1)) (e2 : rdN c t k1 59 = some (b, k2)) (o : okN P a b) : rdI c t k P w = some (k2, tlN P a b, w) := by
  unfold rdI
  rw [if_neg (by omega), if_pos h, e1]
  dsimp only
  rw [e2]
  exact if_pos o
theorem rdI_c {c : Nat} {t : Nat → Nat} {k a b f k1 k2 k3 : Nat} {P : aP} {w : aW} (h : lt c t k = 99) (e1 : rdN c t (k + 1) 44 = some (a, k1)) (e2 : rdN c t k1 44 = some (b, k2)) (e3 : rdN c t k2 59 = some (f, k3)) (o : okW P w a b f) : rdI c t k P w = some (k3, P, wf w a b f) := by
  unfold rdI
  rw [if_neg (by omega), if_neg (by omega), if_pos h, e1]
  dsimp only
  rw [e2]
  dsimp only
  rw [e3]
  exact if_pos o
theorem rdI_q {c : Nat} {t : Nat → Nat} {k a k1 : Nat} {P : aP} {w : aW} (h : lt c t k = 113) (e1 : rdN c t (k + 1) 59 = some (a, k1)) (o : okQ a) : rdI c t k P w = some (k1, tlQ P a, w) := by
  unfold rdI
  rw [if_neg (by omega), if_neg (by omega), if_neg (by omega), if_pos h, e1]
  exact if_pos o
theorem rdA_go {c : Nat} {t : Nat → Nat} {n k k' : Nat} {P P' : aP} {w w' : aW} (hk : k < c) (e : rdI c t k P w = some (k', P', w')) : rdA c t (n + 1) k P w = rdA c t n k' P' w' := by
  show (if c ≤ k then _ else _) = _
  rw [if_neg (by omega), e]
theorem rdA_stop {c : Nat} {t : Nat → Nat} {n k : Nat} {P : aP} {w : aW} (hk : c ≤ k) : rdA c t n k P w = (-4, P, w) := by
  cases n with
  | zero => rfl
  | succ n =>
    show (if c ≤ k then _ else _) = _
    rw [if_pos hk]
def fP0 : aP := P00
def fw0 : aW := w00
theorem ft0 : tot fw0 = 0 := tot_00
def fP1 : aP := tlP fP0 0 2 6
def fP2 : aP := tlP fP1 1 2 12
def fP3 : aP := tlP fP2 2 2 9
def fP4 : aP := tlP fP3 3 1 5
def fP5 : aP := tlP fP4 4 3 8
def fP6 : aP := tlN fP5 3 2
def fP7 : aP := tlN fP6 9 4
def fP8 : aP := tlN fP7 1 1
def fP9 : aP := tlN fP8 14 3
def fP10 : aP := tlN fP9 6 5
def fw1 : aW := wf fw0 0 1 0
theorem ff0 : fw0 0 1 0 = false := by decide +kernel
theorem ft1 : tot fw1 = 1 := by
  show tot (wf fw0 0 1 0) = _
  rw [tot_f fw0 (by decide) (by decide) (by decide) ff0, ft0]
def fw2 : aW := wf fw1 1 0 3
theorem ff1 : fw1 1 0 3 = false := by decide +kernel
theorem ft2 : tot fw2 = 2 := by
  show tot (wf fw1 1 0 3) = _
  rw [tot_f fw1 (by decide) (by decide) (by decide) ff1, ft1]
def fw3 : aW := wf fw2 2 1 1
theorem ff2 : fw2 2 1 1 = false := by decide +kernel
theorem ft3 : tot fw3 = 3 := by
  show tot (wf fw2 2 1 1) = _
  rw [tot_f fw2 (by decide) (by decide) (by decide) ff2, ft2]
def fw4 : aW := wf fw3 0 2 2
theorem ff3 : fw3 0 2 2 = false := by decide +kernel
theorem ft4 : tot fw4 = 4 := by
  show tot (wf fw3 0 2 2) = _
  rw [tot_f fw3 (by decide) (by decide) (by decide) ff3, ft3]
def fw5 : aW := wf fw4 3 2 4
theorem ff4 : fw4 3 2 4 = false := by decide +kernel
theorem ft5 : tot fw5 = 5 := by
  show tot (wf fw4 3 2 4) = _
  rw [tot_f fw4 (by decide) (by decide) (by decide) ff4, ft4]
def fw6 : aW := wf fw5 4 1 0
theorem ff5 : fw5 4 1 0 = false := by decide +kernel
theorem ft6 : tot fw6 = 6 := by
  show tot (wf fw5 4 1 0) = _
  rw [tot_f fw5 (by decide) (by decide) (by decide) ff5, ft5]
def fw7 : aW := wf fw6 1 3 1
theorem ff6 : fw6 1 3 1 = false := by decide +kernel
theorem ft7 : tot fw7 = 7 := by
  show tot (wf fw6 1 3 1) = _
  rw [tot_f fw6 (by decide) (by decide) (by decide) ff6, ft6]
def fw8 : aW := wf fw7 0 4 1
theorem ff7 : fw7 0 4 1 = false := by decide +kernel
theorem ft8 : tot fw8 = 8 := by
  show tot (wf fw7 0 4 1) = _
  rw [tot_f fw7 (by decide) (by decide) (by decide) ff7, ft7]
def fP11 : aP := tlQ fP10 6
theorem fs0 : rdI 121 t00 0 fP0 fw0 = some (7, fP1, fw0) := rdI_p (k1 := 3) (k2 := 5) (k3 := 7) (a := 0) (b := 2) (f := 6) (by decide +kernel) (by decide +kernel) (by decide +kernel) (by decide +kernel) (by decide +kernel)
theorem fs1 : rdI 121 t00 7 fP1 fw0 = some (15, fP2, fw0) := rdI_p (k1 := 10) (k2 := 12) (k3 := 15) (a := 1) (b := 2) (f := 12) (by decide +kernel) (by decide +kernel) (by decide +kernel) (by decide +kernel) (by decide +kernel)
theorem fs2 : rdI 121 t00 15 fP2 fw0 = some (22, fP3, fw0) := rdI_p (k1 := 18) (k2 := 20) (k3 := 22) (a := 2) (b := 2) (f := 9) (by decide +kernel) (by decide +kernel) (by decide +kernel) (by decide +kernel) (by decide +kernel)
theorem fs3 : rdI 121 t00 22 fP3 fw0 = some (29, fP4, fw0) := rdI_p (k1 := 25) (k2 := 27) (k3 := 29) (a := 3) (b := 1) (f := 5) (by decide +kernel) (by decide +kernel) (by decide +kernel) (by decide +kernel) (by decide +kernel)
theorem fs4 : rdI 121 t00 29 fP4 fw0 = some (36, fP5, fw0) := rdI_p (k1 := 32) (k2 := 34) (k3 := 36) (a := 4) (b := 3) (f := 8) (by decide +kernel) (by decide +kernel) (by decide +kernel) (by decide +kernel) (by decide +kernel)
theorem fs5 : rdI 121 t00 36 fP5 fw0 = some (41, fP6, fw0) := rdI_n (k1 := 39) (k2 := 41) (a := 3) (b := 2) (by decide +kernel) (by decide +kernel) (by decide +kernel) (by decide +kernel)
theorem fs6 : rdI 121 t00 41 fP6 fw0 = some (46, fP7, fw0) := rdI_n (k1 := 44) (k2 := 46) (a := 9) (b := 4) (by decide +kernel) (by decide +kernel) (by decide +kernel) (by decide +kernel)
theorem fs7 : rdI 121 t00 46 fP7 fw0 = some (51, fP8, fw0) := rdI_n (k1 := 49) (k2 := 51) (a := 1) (b := 1) (by decide +kernel) (by decide +kernel) (by decide +kernel) (by decide +kernel)
theorem fs8 : rdI 121 t00 51 fP8 fw0 = some (57, fP9, fw0) := rdI_n (k1 := 55) (k2 := 57) (a := 14) (b := 3) (by decide +kernel) (by decide +kernel) (by decide +kernel) (by decide +kernel)
theorem fs9 : rdI 121 t00 57 fP9 fw0 = some (62, fP10, fw0) := rdI_n (k1 := 60) (k2 := 62) (a := 6) (b := 5) (by decide +kernel) (by decide +kernel) (by decide +kernel) (by decide +kernel)
theorem fs10 : rdI 121 t00 62 fP10 fw0 = some (69, fP10, fw1) := rdI_c (k1 := 65) (k2 := 67) (k3 := 69) (a := 0) (b := 1) (f := 0) (by decide +kernel) (by decide +kernel) (by decide +kernel) (by decide +kernel) ⟨by decide +kernel, by decide +kernel, by decide, by decide +kernel, Or.inr (by rw [ft0]; decide)⟩
theorem fs11 : rdI 121 t00 69 fP10 fw1 = some (76, fP10, fw2) := rdI_c (k1 := 72) (k2 := 74) (k3 := 76) (a := 1) (b := 0) (f := 3) (by decide +kernel) (by decide +kernel) (by decide +kernel) (by decide +kernel) ⟨by decide +kernel, by decide +kernel, by decide, by decide +kernel, Or.inr (by rw [ft1]; decide)⟩
theorem fs12 : rdI 121 t00 76 fP10 fw2 = some (83, fP10, fw3) := rdI_c (k1 := 79) (k2 := 81) (k3 := 83) (a := 2) (b := 1) (f := 1) (by decide +kernel) (by decide +kernel) (by decide +kernel) (by decide +kernel) ⟨by decide +kernel, by decide +kernel, by decide, by decide +kernel, Or.inr (by rw [ft2]; decide)⟩
theorem fs13 : rdI 121 t00 83 fP10 fw3 = some (90, fP10, fw4) := rdI_c (k1 := 86) (k2 := 88) (k3 := 90) (a := 0) (b := 2) (f := 2) (by decide +kernel) (by decide +kernel) (by decide +kernel) (by decide +kernel) ⟨by decide +kernel, by decide +kernel, by decide, by decide +kernel, Or.inr (by rw [ft3]; decide)⟩
theorem fs14 : rdI 121 t00 90 fP10 fw4 = some (97, fP10, fw5) := rdI_c (k1 := 93) (k2 := 95) (k3 := 97) (a := 3) (b := 2) (f := 4) (by decide +kernel) (by decide +kernel) (by decide +kernel) (by decide +kernel) ⟨by decide +kernel, by decide +kernel, by decide, by decide +kernel, Or.inr (by rw [ft4]; decide)⟩
theorem fs15 : rdI 121 t00 97 fP10 fw5 = some (104, fP10, fw6) := rdI_c (k1 := 100) (k2 := 102) (k3 := 104) (a := 4) (b := 1) (f := 0) (by decide +kernel) (by decide +kernel) (by decide +kernel) (by decide +kernel) ⟨by decide +kernel, by decide +kernel, by decide, by decide +kernel, Or.inr (by rw [ft5]; decide)⟩
theorem fs16 : rdI 121 t00 104 fP10 fw6 = some (111, fP10, fw7) := rdI_c (k1 := 107) (k2 := 109) (k3 := 111) (a := 1) (b := 3) (f := 1) (by decide +kernel) (by decide +kernel) (by decide +kernel) (by decide +kernel) ⟨by decide +kernel, by decide +kernel, by decide, by decide +kernel, Or.inr (by rw [ft6]; decide)⟩
theorem fs17 : rdI 121 t00 111 fP10 fw7 = some (118, fP10, fw8) := rdI_c (k1 := 114) (k2 := 116) (k3 := 118) (a := 0) (b := 4) (f := 1) (by decide +kernel) (by decide +kernel) (by decide +kernel) (by decide +kernel) ⟨by decide +kernel, by decide +kernel, by decide, by decide +kernel, Or.inr (by rw [ft7]; decide)⟩
theorem fs18 : rdI 121 t00 118 fP10 fw8 = some (121, fP11, fw8) := rdI_q (k1 := 121) (a := 6) (by decide +kernel) (by decide +kernel) (by decide)
theorem rdT_first : rdT 121 t00 = (-4, fP11, fw8) := by
  show rdA 121 t00 200 0 fP0 fw0 = _
  rw [rdA_go (n := 199) (by decide) fs0]
  rw [rdA_go (n := 198) (by decide) fs1]
  rw [rdA_go (n := 197) (by decide) fs2]
  rw [rdA_go (n := 196) (by decide) fs3]
  rw [rdA_go (n := 195) (by decide) fs4]
  rw [rdA_go (n := 194) (by decide) fs5]
  rw [rdA_go (n := 193) (by decide) fs6]
  rw [rdA_go (n := 192) (by decide) fs7]
  rw [rdA_go (n := 191) (by decide) fs8]
  rw [rdA_go (n := 190) (by decide) fs9]
  rw [rdA_go (n := 189) (by decide) fs10]
  rw [rdA_go (n := 188) (by decide) fs11]
  rw [rdA_go (n := 187) (by decide) fs12]
  rw [rdA_go (n := 186) (by decide) fs13]
  rw [rdA_go (n := 185) (by decide) fs14]
  rw [rdA_go (n := 184) (by decide) fs15]
  rw [rdA_go (n := 183) (by decide) fs16]
  rw [rdA_go (n := 182) (by decide) fs17]
  rw [rdA_go (n := 181) (by decide) fs18]
  exact rdA_stop (Nat.le_refl _)
