def kNw : List Cond := [
  (Cond.methodLinkNest "LodgingNames" (9) ({ cls := "LodgingNames$Text", name := "<init>", desc := "()V" } : MethodName) "LodgingNames"),
  (Cond.fieldLinkNest "LodgingNames" (102) "LodgingNames$Text" "length" "I" "LodgingNames"),
  (Cond.methodLinkNest "LodgingNames" (18) ({ cls := "LodgingNames$Port", name := "<init>", desc := "()V" } : MethodName) "LodgingNames"),
  (Cond.methodLinkNest "LodgingNames$Port" (29) ({ cls := "LodgingNames$Words", name := "<init>", desc := "()V" } : MethodName) "LodgingNames"),
  (Cond.fieldLinkNest "LodgingNames$House" (19) "LodgingNames$Port" "kinds" "[I" "LodgingNames"),
  (Cond.fieldLinkNest "LodgingNames$House" (32) "LodgingNames$Port" "beds" "[I" "LodgingNames"),
  (Cond.fieldLinkNest "LodgingNames$House" (37) "LodgingNames$Port" "foods" "[I" "LodgingNames"),
  (Cond.fieldLinkNest "LodgingNames$House" (113) "LodgingNames$Port" "unkind" "[I" "LodgingNames"),
  (Cond.fieldLinkNest "LodgingNames" (144) "LodgingNames$Port" "unkind" "[I" "LodgingNames"),
  (Cond.fieldLinkNest "LodgingNames$Outlook" (94) "LodgingNames$Port" "unkind" "[I" "LodgingNames"),
  (Cond.fieldLinkNest "LodgingNames$House" (95) "LodgingNames$Port" "eats" "[I" "LodgingNames"),
  (Cond.fieldLinkNest "LodgingNames" (133) "LodgingNames$Port" "eats" "[I" "LodgingNames"),
  (Cond.fieldLinkNest "LodgingNames$Standing" (22) "LodgingNames$Port" "words" "LLodgingNames$Words;" "LodgingNames"),
  (Cond.fieldLinkNest "LodgingNames$Outlook" (23) "LodgingNames$Port" "persons" "I" "LodgingNames"),
  (Cond.fieldLinkNest "LodgingNames" (105) "LodgingNames$Port" "persons" "I" "LodgingNames"),
  (Cond.fieldLinkNest "LodgingNames$House" (80) "LodgingNames$Port" "names" "I" "LodgingNames"),
  (Cond.fieldLinkNest "LodgingNames" (108) "LodgingNames$Port" "names" "I" "LodgingNames"),
  (Cond.fieldLinkNest "LodgingNames$Outlook" (74) "LodgingNames$Port" "names" "I" "LodgingNames"),
  (Cond.fieldLinkNest "LodgingNames$House" (119) "LodgingNames$Port" "quarrel" "I" "LodgingNames"),
  (Cond.fieldLinkNest "LodgingNames" (291) "LodgingNames$Port" "quarrel" "I" "LodgingNames"),
  (Cond.methodLinkNest "LodgingNames" (28) ({ cls := "LodgingNames$Standing", name := "<init>", desc := "()V" } : MethodName) "LodgingNames"),
  (Cond.methodLinkNest "LodgingNames$Standing" (11) ({ cls := "LodgingNames$Words", name := "<init>", desc := "()V" } : MethodName) "LodgingNames"),
  (Cond.fieldLinkNest "LodgingNames$House" (43) "LodgingNames$Standing" "words" "LLodgingNames$Words;" "LodgingNames"),
  (Cond.fieldLinkNest "LodgingNames" (162) "LodgingNames$Standing" "words" "LLodgingNames$Words;" "LodgingNames"),
  (Cond.fieldLinkNest "LodgingNames$Outlook" (113) "LodgingNames$Standing" "words" "LLodgingNames$Words;" "LodgingNames"),
  (Cond.fieldLinkNest "LodgingNames$Outlook" (47) "LodgingNames$Standing" "days" "I" "LodgingNames"),
  (Cond.fieldLinkNest "LodgingNames" (178) "LodgingNames$Standing" "days" "I" "LodgingNames"),
  (Cond.fieldLinkNest "LodgingNames$Outlook" (35) "LodgingNames$Standing" "noBeds" "I" "LodgingNames"),
  (Cond.fieldLinkNest "LodgingNames" (285) "LodgingNames$Standing" "noBeds" "I" "LodgingNames"),
  (Cond.methodLinkNest "LodgingNames$Pile" (21) ({ cls := "LodgingNames$Standing", name := "<init>", desc := "()V" } : MethodName) "LodgingNames"),
  (Cond.fieldLinkNest "LodgingNames" (194) "LodgingNames$Pile" "held" "I" "LodgingNames"),
  (Cond.methodLinkNest "LodgingNames" (50) ({ cls := "LodgingNames$Sights", name := "<init>", desc := "()V" } : MethodName) "LodgingNames"),
  (Cond.fieldLinkNest "LodgingNames$Outlook" (106) "LodgingNames$Sights" "persons" "[I" "LodgingNames"),
  (Cond.fieldLinkNest "LodgingNames$Outlook" (110) "LodgingNames$Sights" "names" "[I" "LodgingNames"),
  (Cond.fieldLinkNest "LodgingNames$Outlook" (108) "LodgingNames$Sights" "days" "[I" "LodgingNames"),
  (Cond.fieldLinkNest "LodgingNames$Outlook" (112) "LodgingNames$Sights" "stoutness" "[I" "LodgingNames"),
  (Cond.fieldLinkNest "LodgingNames$Outlook" (101) "LodgingNames$Sights" "many" "I" "LodgingNames"),
  (Cond.fieldLinkNest "LodgingNames" (229) "LodgingNames$Sights" "many" "I" "LodgingNames"),
  (Cond.fieldLinkNest "LodgingNames$Outlook" (86) "LodgingNames$House" "stoutness" "[I" "LodgingNames"),
  (Cond.fieldLinkNest "LodgingNames" (203) "LodgingNames$House" "stoutness" "[I" "LodgingNames"),
  (Cond.fieldLinkNest "LodgingNames" (121) "LodgingNames$House" "kind" "I" "LodgingNames"),
  (Cond.fieldLinkNest "LodgingNames" (124) "LodgingNames$House" "beds" "I" "LodgingNames"),
  (Cond.fieldLinkNest "LodgingNames" (127) "LodgingNames$House" "food" "I" "LodgingNames"),
  (Cond.fieldLinkNest "LodgingNames$Outlook" (82) "LodgingNames$House" "words" "J" "LodgingNames"),
  (Cond.fieldLinkNest "LodgingNames" (210) "LodgingNames$Outlook" "first" "I" "LodgingNames"),
  (Cond.fieldLinkNest "LodgingNames" (213) "LodgingNames$Outlook" "second" "I" "LodgingNames"),
  (Cond.methodLinkNest "LodgingNames$Text" (22) ({ cls := "LodgingNames", name := "put", desc := "([III)V" } : MethodName) "LodgingNames"),
  (Cond.methodLinkNest "LodgingNames$Words" (37) ({ cls := "LodgingNames", name := "put", desc := "([JIJ)V" } : MethodName) "LodgingNames"),
  (Cond.methodLinkNest "LodgingNames$Text" (42) ({ cls := "LodgingNames", name := "at", desc := "([II)I" } : MethodName) "LodgingNames"),
  (Cond.methodLinkNest "LodgingNames$Text" (53) ({ cls := "LodgingNames", name := "within", desc := "(III)Z" } : MethodName) "LodgingNames"),
  (Cond.methodLinkNest "LodgingNames$Port" (62) ({ cls := "LodgingNames", name := "within", desc := "(III)Z" } : MethodName) "LodgingNames"),
  (Cond.methodLinkNest "LodgingNames$Port" (65) ({ cls := "LodgingNames", name := "put", desc := "([III)V" } : MethodName) "LodgingNames"),
  (Cond.methodLinkNest "LodgingNames$Words" (15) ({ cls := "LodgingNames", name := "at", desc := "([JI)J" } : MethodName) "LodgingNames"),
  (Cond.methodLinkNest "LodgingNames$Standing" (29) ({ cls := "LodgingNames", name := "put", desc := "([III)V" } : MethodName) "LodgingNames"),
  (Cond.methodLinkNest "LodgingNames$House" (24) ({ cls := "LodgingNames", name := "at", desc := "([II)I" } : MethodName) "LodgingNames"),
  (Cond.methodLinkNest "LodgingNames$Standing" (40) ({ cls := "LodgingNames", name := "at", desc := "([II)I" } : MethodName) "LodgingNames"),
  (Cond.methodLinkNest "LodgingNames$House" (62) ({ cls := "LodgingNames", name := "put", desc := "([III)V" } : MethodName) "LodgingNames"),
  (Cond.methodLinkNest "LodgingNames$Outlook" (90) ({ cls := "LodgingNames", name := "at", desc := "([II)I" } : MethodName) "LodgingNames"),
  (Cond.methodLinkNest "LodgingNames$Sights" (28) ({ cls := "LodgingNames", name := "put", desc := "([III)V" } : MethodName) "LodgingNames"),
  (Cond.methodLinkNest "LodgingNames$Outlook" (132) ({ cls := "LodgingNames", name := "power", desc := "(JI)J" } : MethodName) "LodgingNames"),
  (Cond.arrayOver (.object "LodgingNames$Standing"))]
/-! base: the contract's form, the entry, the call: one row each -/
abbrev kG : Type := va_G × (ClassId × (ClassId × ClassId))
abbrev kty (G : kG) : List (ClassId × FieldType) := [(G.2.1, .int), (G.2.2.1, .long), (G.2.2.2, .object "LodgingNames$Standing")]
def kisN : Cond → Bool
  | .fieldLinkNest _ _ _ _ _ _ => true
  | .methodLinkNest _ _ _ _ => true
  | .arrayOver (.object _) => true
  | _ => false
theorem kNw_ok : kNw.all kisN = true := by decide +kernel
def kN (U : State) : Prop := ∀ w ∈ kNw, va_Nw w U
theorem kN.warm {s U : State} (hW : s.WarmedH U.vm) (h : kN s) : kN U := by
  intro w hw
  have h1 := List.all_eq_true.mp kNw_ok w hw
  have h2 := h w hw
  cases w with
  | fieldLinkNest a i b n d x => exact va_Nw.warmF hW h2
  | methodLinkNest a i x y => exact va_Nw.warmM hW h2
  | arrayOver t =>
    cases t with
    | object C => exact va_AO.moved hW.alike h2
    | _ => simp [kisN] at h1
  | _ => simp [kisN] at h1
theorem kN.same {u U : State} (hv : u.vm = U.vm) (h : kN u) : kN U := by
  intro w hw
  have h1 := List.all_eq_true.mp kNw_ok w hw
  have h2 := h w hw
  cases w with
  | fieldLinkNest a i b n d x => exact va_Nw.same rfl hv h2
  | methodLinkNest a i x y => exact va_Nw.same rfl hv h2
  | arrayOver t =>
    cases t with
    | object C => exact va_AO.moved (u := u) (U := U) (by rw [hv]; exact Vm.Alike.refl U.vm) h2
    | _ => simp [kisN] at h1
  | _ => simp [kisN] at h1
abbrev kPre (G : kG) (W : va_W) (sz : Nat) (U : State) : Prop := U.heap.size = sz ∧ va_P G.1 vwCl W U.heap ∧ va_K G.1 vwCl (kty G) U ∧ kN U ∧ va_D (fun _ => True) W
abbrev kPost (G : kG) (A : Nat → Prop) {S : Type} (W' : S → va_W) (u : S) (t : State) : Prop := va_P G.1 vwCl (W' u) t.heap ∧ va_K G.1 vwCl (kty G) t ∧ va_D A (W' u)
def kI (l : Launch) (G : kG) (y : MethodName) (ws : List Cond) (rm : Room) (av : List Value) (W : va_W) {S : Type} (W' : S → va_W) (K : Int32 → S → Prop) (mc ms : Nat) : Prop :=
  ∀ sz, Met l y ws rm (va_Pc av (kPre G W sz)) (va_Qi K (kPost G (va_A W sz) W') (va_A W sz)) mc ms (va_A W sz)
def kL (l : Launch) (G : kG) (y : MethodName) (ws : List Cond) (rm : Room) (av : List Value) (W : va_W) {S : Type} (W' : S → va_W) (K : Int64 → S → Prop) (mc ms : Nat) : Prop :=
  ∀ sz, Met l y ws rm (va_Pc av (kPre G W sz)) (va_Ql K (kPost G (va_A W sz) W') (va_A W sz)) mc ms (va_A W sz)
def kV (l : Launch) (G : kG) (y : MethodName) (ws : List Cond) (rm : Room) (av : List Value) (W : va_W) {S : Type} (W' : S → va_W) (K : S → Prop) (mc ms : Nat) : Prop :=
  ∀ sz, Met l y ws rm (va_Pc av (kPre G W sz)) (va_Qv K (kPost G (va_A W sz) W') (va_A W sz)) mc ms (va_A W sz)
def kQ (l : Launch) (G : kG) (y : MethodName) (ws : List Cond) (rm : Room) (av : List Value) (W : va_W) {S : Type} (W' : S → va_W) (K : Option Nat → S → Prop) (mc ms : Nat) : Prop :=
  ∀ sz, Met l y ws rm (va_Pc av (kPre G W sz)) (va_Qq K (kPost G (va_A W sz) W') (va_A W sz)) mc ms (va_A W sz)
set_option maxHeartbeats 4000000 in
theorem kI_of {l : Launch} {G : kG} {y : MethodName} {ws ws' : List Cond} {rm : Room} {av : List Value} {W0 : va_W} {S : Type} {W' : S → va_W} {K : Int32 → S → Prop} {mc ms : Nat} {cc : ByteArray} {maxL : Nat} {ret : FieldType}
    (hy : plainName y.cls = true) (hw : ws = Cond.code y cc maxL (some ret) :: ws') (hn : (lg_sl av).length ≤ maxL)
    (body : ∀ (p : Program) (e : Env) (s : State) (m : MethodId) (below : List Frame) (meth : Method) (c : Code) (Q : State → Prop) (A : Nat → Prop) (ls : Array Slot), CallFix p m c cc maxL s av.toArray ws y.cls → va_K G.1 vwCl (kty G) s → kN s → (∀ q : Nat, s.heap.size ≤ q → A q) → meth.name = y.name →
      (∀ (H : Heap) (locs : List Loc) (pc : Nat) (ls : Array Slot) (v : Int32) (u : S), narrow ret (.int v) = .int v → decode cc pc = .ok (.ireturn, 1) → K v u → va_P G.1 vwCl (W' u) H → va_D A (W' u) → va_S A s.heap H locs → W p l e rm s m av.toArray below meth c H locs mc ms Q (F0 m pc ls [.int v])) →
      va_P G.1 vwCl W0 s.heap → va_D A W0 → lv_has ls maxL (lv_args 0 av) → va_S A s.heap s.heap [] →
      W p l e rm s m av.toArray below meth c s.heap [] 0 0 Q (F0 m 0 ls [])) : kI l G y ws rm av W0 W' K mc ms := by
  intro sz
  refine Met.ofW (cc := cc) (maxL := maxL) (ret := some ret) hy hw ?_
  intro p e s m args below meth c s₁ B hml hv
  obtain ⟨rfl, hsz, hP, hK, hN, hD0⟩ := hv
  have hts := atoms_spec (ws := ws) B.pre
  have hown : s.vm.findClass y.cls = some m.cls := findClass_of_methodNamed B.named
  subst hsz
  have hD := hD0.self (sz := s.heap.size)
  generalize hAe : va_A W0 s.heap.size = A at hD ⊢
  have hl := lv_entry av (n := maxL) hn
  rw [lg_entry_eq]
  generalize (lg_sl av ++ List.replicate (maxL - (lg_sl av).length) Slot.unset).toArray = ls at hl ⊢
  refine body p e s m below meth c _ A ls ⟨B.exec, B.bytes, hml, hown, hts⟩ hK hN (fun q h => by rw [← hAe]; exact Or.inr h) (name_of_methodNamed B.named B.method).1 ?_ hP hD hl va_S.rf
  intro H locs pc ls v u hnar hd hKv hP hD hS
  exact W.zret (v := v) B.exec B.bytes B.returns hnar (fun t ht hW => ⟨⟨v, u, rfl, hKv, by rw [ht]; exact hP, va_K.moved hW.alike hK, hD⟩, hS.F ht⟩) hS.2.2 hd B.notSynchronized
set_option maxHeartbeats 4000000 in
theorem kL_of {l : Launch} {G : kG} {y : MethodName} {ws ws' : List Cond} {rm : Room} {av : List Value} {W0 : va_W} {S : Type} {W' : S → va_W} {K : Int64 → S → Prop} {mc ms : Nat} {cc : ByteArray} {maxL : Nat}
    (hy : plainName y.cls = true) (hw : ws = Cond.code y cc maxL (some .long) :: ws') (hn : (lg_sl av).length ≤ maxL)
    (body : ∀ (p : Program) (e : Env) (s : State) (m : MethodId) (below : List Frame) (meth : Method) (c : Code) (Q : State → Prop) (A : Nat → Prop) (ls : Array Slot), CallFix p m c cc maxL s av.toArray ws y.cls → va_K G.1 vwCl (kty G) s → kN s → (∀ q : Nat, s.heap.size ≤ q → A q) → meth.name = y.name →
      (∀ (H : Heap) (locs : List Loc) (pc : Nat) (ls : Array Slot) (v : Int64) (u : S), decode cc pc = .ok (.lreturn, 1) → K v u → va_P G.1 vwCl (W' u) H → va_D A (W' u) → va_S A s.heap H locs → W p l e rm s m av.toArray below meth c H locs mc ms Q (F0 m pc ls [.long v])) →
      va_P G.1 vwCl W0 s.heap → va_D A W0 → lv_has ls maxL (lv_args 0 av) → va_S A s.heap s.heap [] →
      W p l e rm s m av.toArray below meth c s.heap [] 0 0 Q (F0 m 0 ls [])) : kL l G y ws rm av W0 W' K mc ms := by
  intro sz
  refine Met.ofW (cc := cc) (maxL := maxL) (ret := some .long) hy hw ?_
  intro p e s m args below meth c s₁ B hml hv
  obtain ⟨rfl, hsz, hP, hK, hN, hD0⟩ := hv
  have hts := atoms_spec (ws := ws) B.pre
  have hown : s.vm.findClass y.cls = some m.cls := findClass_of_methodNamed B.named
  subst hsz
  have hD := hD0.self (sz := s.heap.size)
  generalize hAe : va_A W0 s.heap.size = A at hD ⊢
  have hl := lv_entry av (n := maxL) hn
  rw [lg_entry_eq]
  generalize (lg_sl av ++ List.replicate (maxL - (lg_sl av).length) Slot.unset).toArray = ls at hl ⊢
  refine body p e s m below meth c _ A ls ⟨B.exec, B.bytes, hml, hown, hts⟩ hK hN (fun q h => by rw [← hAe]; exact Or.inr h) (name_of_methodNamed B.named B.method).1 ?_ hP hD hl va_S.rf
  intro H locs pc ls v u hd hKv hP hD hS
  exact W.lret (v := v) B.exec B.bytes B.returns (fun t ht hW => ⟨⟨v, u, rfl, hKv, by rw [ht]; exact hP, va_K.moved hW.alike hK, hD⟩, hS.F ht⟩) hS.2.2 hd B.notSynchronized
set_option maxHeartbeats 4000000 in
theorem kV_of {l : Launch} {G : kG} {y : MethodName} {ws ws' : List Cond} {rm : Room} {av : List Value} {W0 : va_W} {S : Type} {W' : S → va_W} {K : S → Prop} {mc ms : Nat} {cc : ByteArray} {maxL : Nat}
    (hy : plainName y.cls = true) (hw : ws = Cond.code y cc maxL none :: ws') (hn : (lg_sl av).length ≤ maxL)
    (body : ∀ (p : Program) (e : Env) (s : State) (m : MethodId) (below : List Frame) (meth : Method) (c : Code) (Q : State → Prop) (A : Nat → Prop) (ls : Array Slot), CallFix p m c cc maxL s av.toArray ws y.cls → va_K G.1 vwCl (kty G) s → kN s → (∀ q : Nat, s.heap.size ≤ q → A q) → meth.name = y.name →
      (∀ (H : Heap) (locs : List Loc) (pc : Nat) (ls : Array Slot) (u : S), decode cc pc = .ok (.return_, 1) → K u → va_P G.1 vwCl (W' u) H → va_D A (W' u) → va_S A s.heap H locs → W p l e rm s m av.toArray below meth c H locs mc ms Q (F0 m pc ls [])) →
      va_P G.1 vwCl W0 s.heap → va_D A W0 → lv_has ls maxL (lv_args 0 av) → va_S A s.heap s.heap [] →
      W p l e rm s m av.toArray below meth c s.heap [] 0 0 Q (F0 m 0 ls [])) : kV l G y ws rm av W0 W' K mc ms := by
  intro sz
  refine Met.ofW (cc := cc) (maxL := maxL) (ret := none) hy hw ?_
  intro p e s m args below meth c s₁ B hml hv
  obtain ⟨rfl, hsz, hP, hK, hN, hD0⟩ := hv
  have hts := atoms_spec (ws := ws) B.pre
  have hown : s.vm.findClass y.cls = some m.cls := findClass_of_methodNamed B.named
  subst hsz
  have hD := hD0.self (sz := s.heap.size)
  generalize hAe : va_A W0 s.heap.size = A at hD ⊢
  have hl := lv_entry av (n := maxL) hn
  rw [lg_entry_eq]
  generalize (lg_sl av ++ List.replicate (maxL - (lg_sl av).length) Slot.unset).toArray = ls at hl ⊢
  refine body p e s m below meth c _ A ls ⟨B.exec, B.bytes, hml, hown, hts⟩ hK hN (fun q h => by rw [← hAe]; exact Or.inr h) (name_of_methodNamed B.named B.method).1 ?_ hP hD hl va_S.rf
  intro H locs pc ls u hd hKv hP hD hS
  exact W.vret B.exec B.bytes B.returns (fun t ht hW => ⟨⟨u, rfl, hKv, by rw [ht]; exact hP, va_K.moved hW.alike hK, hD⟩, hS.F ht⟩) hS.2.2 hd B.notSynchronized
theorem va_rf_cases (r : Option Nat) : va_rf r = .null ∨ ∃ a, va_rf r = .ref a := by
  cases r with
  | none => exact Or.inl rfl
  | some a => exact Or.inr ⟨a, rfl⟩
set_option maxHeartbeats 4000000 in
theorem kQ_of {l : Launch} {G : kG} {y : MethodName} {ws ws' : List Cond} {rm : Room} {av : List Value} {W0 : va_W} {S : Type} {W' : S → va_W} {K : Option Nat → S → Prop} {mc ms : Nat} {cc : ByteArray} {maxL : Nat} {cn : String}
    (hy : plainName y.cls = true) (hw : ws = Cond.code y cc maxL (some (.object cn)) :: ws') (hn : (lg_sl av).length ≤ maxL)
    (body : ∀ (p : Program) (e : Env) (s : State) (m : MethodId) (below : List Frame) (meth : Method) (c : Code) (Q : State → Prop) (A : Nat → Prop) (ls : Array Slot), CallFix p m c cc maxL s av.toArray ws y.cls → va_K G.1 vwCl (kty G) s → kN s → (∀ q : Nat, s.heap.size ≤ q → A q) → meth.name = y.name →
      (∀ (H : Heap) (locs : List Loc) (pc : Nat) (ls : Array Slot) (v : Option Nat) (u : S), decode cc pc = .ok (.areturn, 1) → K v u → va_P G.1 vwCl (W' u) H → va_D A (W' u) → va_S A s.heap H locs → W p l e rm s m av.toArray below meth c H locs mc ms Q (F0 m pc ls [va_rf v])) →
      va_P G.1 vwCl W0 s.heap → va_D A W0 → lv_has ls maxL (lv_args 0 av) → va_S A s.heap s.heap [] →
      W p l e rm s m av.toArray below meth c s.heap [] 0 0 Q (F0 m 0 ls [])) : kQ l G y ws rm av W0 W' K mc ms := by
  intro sz
  refine Met.ofW (cc := cc) (maxL := maxL) (ret := some (.object cn)) hy hw ?_
  intro p e s m args below meth c s₁ B hml hv
  obtain ⟨rfl, hsz, hP, hK, hN, hD0⟩ := hv
  have hts := atoms_spec (ws := ws) B.pre
  have hown : s.vm.findClass y.cls = some m.cls := findClass_of_methodNamed B.named
  subst hsz
  have hD := hD0.self (sz := s.heap.size)
  generalize hAe : va_A W0 s.heap.size = A at hD ⊢
  have hl := lv_entry av (n := maxL) hn
  rw [lg_entry_eq]
  generalize (lg_sl av ++ List.replicate (maxL - (lg_sl av).length) Slot.unset).toArray = ls at hl ⊢
  refine body p e s m below meth c _ A ls ⟨B.exec, B.bytes, hml, hown, hts⟩ hK hN (fun q h => by rw [← hAe]; exact Or.inr h) (name_of_methodNamed B.named B.method).1 ?_ hP hD hl va_S.rf
  intro H locs pc ls v u hd hKv hP hD hS
  exact W.aret (v := va_rf v) B.exec B.bytes B.returns (Or.inl ⟨_, rfl⟩) (va_rf_cases v) (fun t ht hW => ⟨⟨v, u, rfl, hKv, by rw [ht]; exact hP, va_K.moved hW.alike hK, hD⟩, hS.F ht⟩) hS.2.2 hd B.notSynchronized
theorem kfm {α : Type} {is : List Nat} {f : Nat → Option α} {w : List α} (h : is.map f = w.map some) : is.filterMap f = w := by
  have h1 : is.filterMap f = (is.map f).filterMap id := by rw [List.filterMap_map]; rfl
  rw [h1, h, List.filterMap_map]
  exact List.filterMap_some
theorem kblind {G : kG} {av : List Value} {W : va_W} {sz : Nat} : FrameBlind (va_Pc av (kPre G W sz)) := fun a U g mk q => by
  obtain ⟨q0, q1, qP, qK, qN, qD⟩ := q
  exact ⟨q0, q1, qP, va_K.moved (u := U) (U := U.calling g mk a) (Vm.Alike.refl U.vm) qK, kN.same (u := U) (U := U.calling g mk a) rfl qN, qD⟩
theorem kpreS {G : kG} {As : List Value} {A : Nat → Prop} {Ws Wc : va_W} {H : Heap} {s : State} (hP : va_P G.1 vwCl Ws H) (hD : va_D A Ws) (hK : va_K G.1 vwCl (kty G) s) (hN : kN s) (isC : List Nat) (hC : isC.map (fun i => Ws[i]?) = Wc.map some) (hn : va_nd isC = true) : PreS s H (va_Pc As (kPre G Wc H.size)) As :=
  ⟨kblind, fun U hU hW => ⟨rfl, by rw [hU], by rw [hU]; exact hP.sub isC (kfm hC), va_K.moved hW.alike hK, hN.warm hW, (hD.sub isC hn hC).weaken (fun _ _ _ _ => trivial)⟩⟩
theorem kpreV {G : kG} {As : List Value} {A : Nat → Prop} {Ws Wc : va_W} {H : Heap} {s : State} (hP : va_P G.1 vwCl Ws H) (hD : va_D A Ws) (hK : va_K G.1 vwCl (kty G) s) (hN : kN s) (isC : List Nat) (hC : isC.map (fun i => Ws[i]?) = Wc.map some) (hn : va_nd isC = true) (q0 : Nat) {ci N : Nat} {C : String} {T : u_T} {b : Nat} {fs : List Value} (he : Ws[q0]? = some (b, .inr (ci, fs))) (hc : vwCl[ci]? = some (C, T, N)) : PreV s H C b (va_Pc (.ref b :: As) (kPre G Wc H.size)) As :=
  ⟨kblind, va_recv hK hP hc he, fun U hU hW => ⟨rfl, by rw [hU], by rw [hU]; exact hP.sub isC (kfm hC), va_K.moved hW.alike hK, hN.warm hW, (hD.sub isC hn hC).weaken (fun _ _ _ _ => trivial)⟩⟩
theorem wp_t {c : Prop} [Decidable c] {A B : Prop} (h : if c then A else B) (hc : c) : A := by rwa [if_pos hc] at h
theorem wp_f {c : Prop} [Decidable c] {A B : Prop} (h : if c then A else B) (hc : ¬ c) : B := by rwa [if_neg hc] at h
section KC
variable {p : Program} {l : Launch} {e : Env} {R : Room} {s : State} {m : MethodId} {args : Array Value} {below : List Frame} {meth : Method} {c : Code} {H : Heap} {locs : List Loc} {cells slots : Nat} {Q : State → Prop} {G : kG}
variable {pc : Nat} {ls : Array Slot} {rest st0 : List Value} {a : Array Value} {A : Nat → Prop} {H0 : Heap} {S : Type} {W' : S → va_W} {Ws Wc Wr : va_W}
theorem kc_i {K : Int32 → S → Prop} (hr : va_Run p l e R s m args below meth c H locs cells slots 0 0 (F0 m pc ls st0) rest (va_Qi K (kPost G (va_A Wc H.size) W') (va_A Wc H.size) a) (va_A Wc H.size))
    (hP : va_P G.1 vwCl Ws H) (hD : va_D A Ws) (hS : va_S A H0 H locs) (hA : ∀ q, H0.size ≤ q → A q) (isC isR : List Nat) (hC : isC.map (fun i => Ws[i]?) = Wc.map some) (hR : isR.map (fun i => Ws[i]?) = Wr.map some) (hn : va_nd isR = true) (hdis : ∀ i ∈ isR, i ∉ isC)
    (kk : ∀ (r : Int32) (u : S) (H1 : Heap) (locs1 : List Loc), K r u → va_P G.1 vwCl (Wr ++ W' u) H1 → va_D A (Wr ++ W' u) → va_S A H0 H1 locs1 → W p l e R s m args below meth c H1 locs1 cells slots Q (F0 m (pc + 3) ls (.int r :: rest))) : W p l e R s m args below meth c H locs cells slots Q (F0 m pc ls st0) := by
  have hF := va_free (wc := Wc) hD hS hA isC hC
  refine va_calli hr hS (fun q _ h => hF q h) hF (fun r u t H1 locs1 ht hvm hw hB hz1 hk1 hS1 => ?_)
  obtain ⟨hP1, hK1, hD1⟩ := hB
  rw [ht] at hP1
  obtain ⟨hP2, hD2⟩ := va_join hP hD isC isR hC hR hn hdis hk1 hF hP1 hD1
  exact kk r u H1 locs1 hw hP2 hD2 hS1
theorem kc_l {K : Int64 → S → Prop} (hr : va_Run p l e R s m args below meth c H locs cells slots 0 0 (F0 m pc ls st0) rest (va_Ql K (kPost G (va_A Wc H.size) W') (va_A Wc H.size) a) (va_A Wc H.size))
    (hP : va_P G.1 vwCl Ws H) (hD : va_D A Ws) (hS : va_S A H0 H locs) (hA : ∀ q, H0.size ≤ q → A q) (isC isR : List Nat) (hC : isC.map (fun i => Ws[i]?) = Wc.map some) (hR : isR.map (fun i => Ws[i]?) = Wr.map some) (hn : va_nd isR = true) (hdis : ∀ i ∈ isR, i ∉ isC)
    (kk : ∀ (r : Int64) (u : S) (H1 : Heap) (locs1 : List Loc), K r u → va_P G.1 vwCl (Wr ++ W' u) H1 → va_D A (Wr ++ W' u) → va_S A H0 H1 locs1 → W p l e R s m args below meth c H1 locs1 cells slots Q (F0 m (pc + 3) ls (.long r :: rest))) : W p l e R s m args below meth c H locs cells slots Q (F0 m pc ls st0) := by
  have hF := va_free (wc := Wc) hD hS hA isC hC
  refine va_calll hr hS (fun q _ h => hF q h) hF (fun r u t H1 locs1 ht hvm hw hB hz1 hk1 hS1 => ?_)
  obtain ⟨hP1, hK1, hD1⟩ := hB
  rw [ht] at hP1
  obtain ⟨hP2, hD2⟩ := va_join hP hD isC isR hC hR hn hdis hk1 hF hP1 hD1
  exact kk r u H1 locs1 hw hP2 hD2 hS1
theorem kc_v {K : S → Prop} (hr : va_Run p l e R s m args below meth c H locs cells slots 0 0 (F0 m pc ls st0) rest (va_Qv K (kPost G (va_A Wc H.size) W') (va_A Wc H.size) a) (va_A Wc H.size))
    (hP : va_P G.1 vwCl Ws H) (hD : va_D A Ws) (hS : va_S A H0 H locs) (hA : ∀ q, H0.size ≤ q → A q) (isC isR : List Nat) (hC : isC.map (fun i => Ws[i]?) = Wc.map some) (hR : isR.map (fun i => Ws[i]?) = Wr.map some) (hn : va_nd isR = true) (hdis : ∀ i ∈ isR, i ∉ isC)
    (kk : ∀ (u : S) (H1 : Heap) (locs1 : List Loc), K u → va_P G.1 vwCl (Wr ++ W' u) H1 → va_D A (Wr ++ W' u) → va_S A H0 H1 locs1 → W p l e R s m args below meth c H1 locs1 cells slots Q (F0 m (pc + 3) ls rest)) : W p l e R s m args below meth c H locs cells slots Q (F0 m pc ls st0) := by
  have hF := va_free (wc := Wc) hD hS hA isC hC
  refine va_callv hr hS (fun q _ h => hF q h) hF (fun u t H1 locs1 ht hvm hw hB hz1 hk1 hS1 => ?_)
  obtain ⟨hP1, hK1, hD1⟩ := hB
  rw [ht] at hP1
  obtain ⟨hP2, hD2⟩ := va_join hP hD isC isR hC hR hn hdis hk1 hF hP1 hD1
  exact kk u H1 locs1 hw hP2 hD2 hS1
theorem kc_q {K : Option Nat → S → Prop} (hr : va_Run p l e R s m args below meth c H locs cells slots 0 0 (F0 m pc ls st0) rest (va_Qq K (kPost G (va_A Wc H.size) W') (va_A Wc H.size) a) (va_A Wc H.size))
    (hP : va_P G.1 vwCl Ws H) (hD : va_D A Ws) (hS : va_S A H0 H locs) (hA : ∀ q, H0.size ≤ q → A q) (isC isR : List Nat) (hC : isC.map (fun i => Ws[i]?) = Wc.map some) (hR : isR.map (fun i => Ws[i]?) = Wr.map some) (hn : va_nd isR = true) (hdis : ∀ i ∈ isR, i ∉ isC)
    (kk : ∀ (r : Option Nat) (u : S) (H1 : Heap) (locs1 : List Loc), K r u → va_P G.1 vwCl (Wr ++ W' u) H1 → va_D A (Wr ++ W' u) → va_S A H0 H1 locs1 → W p l e R s m args below meth c H1 locs1 cells slots Q (F0 m (pc + 3) ls (va_rf r :: rest))) : W p l e R s m args below meth c H locs cells slots Q (F0 m pc ls st0) := by
  have hF := va_free (wc := Wc) hD hS hA isC hC
  refine va_callq hr hS (fun q _ h => hF q h) hF (fun r u t H1 locs1 ht hvm hw hB hz1 hk1 hS1 => ?_)
  obtain ⟨hP1, hK1, hD1⟩ := hB
  rw [ht] at hP1
  obtain ⟨hP2, hD2⟩ := va_join hP hD isC isR hC hR hn hdis hk1 hF hP1 hD1
  exact kk r u H1 locs1 hw hP2 hD2 hS1
theorem kcn_v {mc ms : Nat} {K : S → Prop} (hr : va_Run p l e R s m args below meth c H locs cells slots mc ms (F0 m pc ls st0) rest (va_Qv K (kPost G (va_A Wc H.size) W') (va_A Wc H.size) a) (va_A Wc H.size))
    (hP : va_P G.1 vwCl Ws H) (hD : va_D A Ws) (hS : va_S A H0 H locs) (hA : ∀ q, H0.size ≤ q → A q) (isC isR : List Nat) (hC : isC.map (fun i => Ws[i]?) = Wc.map some) (hR : isR.map (fun i => Ws[i]?) = Wr.map some) (hn : va_nd isR = true) (hdis : ∀ i ∈ isR, i ∉ isC)
    (kk : ∀ (u : S) (H1 : Heap) (locs1 : List Loc), K u → va_P G.1 vwCl (Wr ++ W' u) H1 → va_D A (Wr ++ W' u) → va_S A H0 H1 locs1 → W p l e R s m args below meth c H1 locs1 (cells + mc) (slots + ms) Q (F0 m (pc + 3) ls rest)) : W p l e R s m args below meth c H locs cells slots Q (F0 m pc ls st0) := by
  have hF := va_free (wc := Wc) hD hS hA isC hC
  refine va_callv hr hS (fun q _ h => hF q h) hF (fun u t H1 locs1 ht hvm hw hB hz1 hk1 hS1 => ?_)
  obtain ⟨hP1, hK1, hD1⟩ := hB
  rw [ht] at hP1
  obtain ⟨hP2, hD2⟩ := va_join hP hD isC isR hC hR hn hdis hk1 hF hP1 hD1
  exact kk u H1 locs1 hw hP2 hD2 hS1
end KC
theorem Met.mono {l : Launch} {y : MethodName} {ws : List Cond} {rm : Room} {Pc Pc' : Array Value → State → Prop} {Qc Qc' : Array Value → State → Outcome → State → Prop} {mc ms : Nat} {free free' : Addr → Prop} (hM : Met l y ws rm Pc Qc mc ms free) (h1 : ∀ a s, Pc' a s → Pc a s) (h2 : ∀ a s o t, Pc' a s → Qc a s o t → Qc' a s o t) (h3 : ∀ a s, Pc' a s → ∀ q, free q → free' q) : Met l y ws rm Pc' Qc' mc ms free' := by
  intro p e ha hc hk s m args below hf happ hP hK
  obtain ⟨n, o, k1, k2, k3, k4, L, k5, k6⟩ := hM p e ha hc hk s m args below hf happ (h1 _ _ hP) hK
  exact ⟨n, o, k1, k2, k3, h2 _ _ _ _ hP k4, L, k5, fun q hq => h3 _ _ hP q.base (k6 q hq)⟩
theorem kA_sub {Ws Wc : va_W} {sz : Nat} (isC : List Nat) (hC : isC.map (fun i => Ws[i]?) = Wc.map some) : ∀ q, va_A Wc sz q → va_A Ws sz q := by
  intro q h
  rcases h with ⟨k, e, h⟩ | h
  · have h1 : (isC.map (fun i => Ws[i]?))[k]? = some (some (q, e)) := by rw [hC, List.getElem?_map, h]; rfl
    rw [List.getElem?_map] at h1
    cases hi : isC[k]? with
    | none => rw [hi] at h1; cases h1
    | some i =>
      rw [hi] at h1
      exact Or.inl ⟨i, e, Option.some.inj h1⟩
  · exact Or.inr h
theorem kV_frame {l : Launch} {G : kG} {y : MethodName} {ws : List Cond} {rm : Room} {av : List Value} {W0 Wb Wr : va_W} {S S2 : Type} {W' : S → va_W} {Wb' : S2 → va_W} {K : S2 → Prop} {mc ms : Nat} {g : S → S2}
    (hM : kV l G y ws rm av W0 W' (fun u => K (g u)) mc ms) (isC isR perm : List Nat) (hC : isC.map (fun i => Wb[i]?) = W0.map some) (hCn : va_nd isC = true) (hR : isR.map (fun i => Wb[i]?) = Wr.map some) (hn : va_nd isR = true) (hdis : ∀ i ∈ isR, i ∉ isC)
    (hp : ∀ u, perm.map (fun i => (Wr ++ W' u)[i]?) = (Wb' (g u)).map some) (hpn : va_nd perm = true) : kV l G y ws rm av Wb Wb' K mc ms := by
  intro sz
  refine Met.mono (hM sz) ?_ ?_ ?_
  · rintro a s ⟨ha, hsz, hP, hK, hN, hD⟩
    exact ⟨ha, hsz, hP.sub isC (kfm hC), hK, hN, hD.sub isC hCn hC⟩
  · rintro a s o t ⟨ha, hsz, hP, hK, hN, hD⟩ ⟨⟨u, ho, hKu, hP1, hK1, hD1⟩, hz, hk⟩
    subst hsz
    have hDs := hD.self (sz := s.heap.size)
    obtain ⟨hP2, hD2⟩ := va_join hP hDs isC isR hC hR hn hdis hk (kA_sub isC hC) hP1 hD1
    exact ⟨⟨g u, ho, hKu, hP2.sub perm (kfm (hp u)), hK1, hD2.sub perm hpn (hp u)⟩, hz, fun q h1 h2 => hk q h1 (fun z => h2 (kA_sub isC hC q z))⟩
  · intro a s _ q hq
    exact kA_sub isC hC q hq
theorem kz {v : Int32} (h : v = 0 ∨ v = 1) : narrow .boolean (.int v) = .int v := by
  rcases h with rfl | rfl <;> rfl
