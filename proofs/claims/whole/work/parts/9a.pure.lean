/-! the constructor's text: String.length and String.charAt over the one constant -/
/-- what the methods of String read: the constant at ak, its bytes at aw, the two statics -/
def jS (A : Nat → Prop) (U : State) (H : Heap) (ak aw : Nat) : Prop :=
  va_O "java/lang/String" ak A U H ∧ va_OF "java/lang/String" "coder" "B" (.int 0) ak A U H ∧ va_OF "java/lang/String" "value" "[B" (.ref aw) ak A U H ∧ va_T .byte aw 121 (fun j => .int (nI (t00 j))) A U H ∧ va_Z "java/lang/String" "COMPACT_STRINGS" "Z" (.int 1) A U H ∧ va_Zq "jdk/internal/util/Preconditions" "SIOOBE_FORMATTER" "Ljava/util/function/BiFunction;" A U H
theorem jS.mv {A : Nat → Prop} {u U : State} {H : Heap} {ak aw : Nat} (hv : u.vm.Alike U.vm) (h : jS A u H ak aw) : jS A U H ak aw := by
  obtain ⟨h1, h2, h3, h4, h5, h6⟩ := h
  exact ⟨va_O.moved hv h1, va_OF.moved hv h2, va_OF.moved hv h3, va_T.moved hv h4, va_Z.moved hv h5, va_Zq.moved hv h6⟩
theorem jS.go {A B : Nat → Prop} {s U : State} {H : Heap} {locs : List Loc} {ak aw : Nat} (h : jS A s s.heap ak aw) (hS : va_S A s.heap H locs) (hv : s.vm.Alike U.vm) (hB : ∀ q, B q → A q) : jS B U H ak aw := by
  obtain ⟨h1, h2, h3, h4, h5, h6⟩ := h
  exact jS.mv hv ⟨(h1.kept hS.2.1).narrow hB, (h2.kept hS.2.1).narrow hB, (h3.kept hS.2.1).narrow hB, (h4.kept hS.2.1).narrow hB, (h5.kept hS.2.1).narrow hB, (h6.kept hS.2.1).narrow hB⟩
abbrev jPre (sz ak aw : Nat) (U : State) : Prop := U.heap.size = sz ∧ jS (fun q : Nat => sz ≤ q) U U.heap ak aw
def jI (l : Launch) (y : MethodName) (ws : List Cond) (rm : Room) (av : List Value) (ak aw : Nat) (K : Int32 → Prop) : Prop :=
  ∀ sz : Nat, Met l y ws rm (va_Pc av (jPre sz ak aw)) (va_Qi (fun r (_ : Unit) => K r) (fun _ _ => True) (fun q : Nat => sz ≤ q)) 0 0 (fun q : Nat => sz ≤ q)
def jV (l : Launch) (y : MethodName) (ws : List Cond) (rm : Room) (av : List Value) (ak aw : Nat) : Prop :=
  ∀ sz : Nat, Met l y ws rm (va_Pc av (jPre sz ak aw)) (va_Qv (fun (_ : Unit) => True) (fun _ _ => True) (fun q : Nat => sz ≤ q)) 0 0 (fun q : Nat => sz ≤ q)
set_option maxHeartbeats 4000000 in
theorem jI_of {l : Launch} {y : MethodName} {ws ws' : List Cond} {rm : Room} {av : List Value} {ak aw : Nat} {K : Int32 → Prop} {cc : ByteArray} {maxL : Nat} {ret : FieldType}
    (hy : plainName y.cls = true) (hw : ws = Cond.code y cc maxL (some ret) :: ws') (hn : (lg_sl av).length ≤ maxL)
    (body : ∀ (p : Program) (e : Env) (s : State) (m : MethodId) (below : List Frame) (meth : Method) (c : Code) (Q : State → Prop) (A : Nat → Prop) (ls : Array Slot), CallFix p m c cc maxL s av.toArray ws y.cls → jS A s s.heap ak aw → (∀ q : Nat, s.heap.size ≤ q → A q) →
      (∀ (H : Heap) (locs : List Loc) (pc : Nat) (ls : Array Slot) (v : Int32), narrow ret (.int v) = .int v → decode cc pc = .ok (.ireturn, 1) → K v → va_S A s.heap H locs → W p l e rm s m av.toArray below meth c H locs 0 0 Q (F0 m pc ls [.int v])) →
      lv_has ls maxL (lv_args 0 av) → va_S A s.heap s.heap [] →
      W p l e rm s m av.toArray below meth c s.heap [] 0 0 Q (F0 m 0 ls [])) : jI l y ws rm av ak aw K := by
  intro sz
  refine Met.ofW (cc := cc) (maxL := maxL) (ret := some ret) hy hw ?_
  intro p e s m args below meth c s₁ B hml hv
  obtain ⟨rfl, hsz, hJ⟩ := hv
  have hts := atoms_spec (ws := ws) B.pre
  have hown : s.vm.findClass y.cls = some m.cls := findClass_of_methodNamed B.named
  subst hsz
  have hl := lv_entry av (n := maxL) hn
  rw [lg_entry_eq]
  generalize (lg_sl av ++ List.replicate (maxL - (lg_sl av).length) Slot.unset).toArray = ls at hl ⊢
  refine body p e s m below meth c _ (fun q : Nat => s.heap.size ≤ q) ls ⟨B.exec, B.bytes, hml, hown, hts⟩ hJ (fun q h => h) ?_ hl va_S.rf
  intro H locs pc ls v hnar hd hK hS
  exact W.zret (v := v) B.exec B.bytes B.returns hnar (fun t ht hW => ⟨⟨v, (), rfl, hK, trivial⟩, hS.F ht⟩) hS.2.2 hd B.notSynchronized
set_option maxHeartbeats 4000000 in
theorem jV_of {l : Launch} {y : MethodName} {ws ws' : List Cond} {rm : Room} {av : List Value} {ak aw : Nat} {cc : ByteArray} {maxL : Nat}
    (hy : plainName y.cls = true) (hw : ws = Cond.code y cc maxL none :: ws') (hn : (lg_sl av).length ≤ maxL)
    (body : ∀ (p : Program) (e : Env) (s : State) (m : MethodId) (below : List Frame) (meth : Method) (c : Code) (Q : State → Prop) (A : Nat → Prop) (ls : Array Slot), CallFix p m c cc maxL s av.toArray ws y.cls → jS A s s.heap ak aw → (∀ q : Nat, s.heap.size ≤ q → A q) →
      (∀ (H : Heap) (locs : List Loc) (pc : Nat) (ls : Array Slot), decode cc pc = .ok (.return_, 1) → va_S A s.heap H locs → W p l e rm s m av.toArray below meth c H locs 0 0 Q (F0 m pc ls [])) →
      lv_has ls maxL (lv_args 0 av) → va_S A s.heap s.heap [] →
      W p l e rm s m av.toArray below meth c s.heap [] 0 0 Q (F0 m 0 ls [])) : jV l y ws rm av ak aw := by
  intro sz
  refine Met.ofW (cc := cc) (maxL := maxL) (ret := none) hy hw ?_
  intro p e s m args below meth c s₁ B hml hv
  obtain ⟨rfl, hsz, hJ⟩ := hv
  have hts := atoms_spec (ws := ws) B.pre
  have hown : s.vm.findClass y.cls = some m.cls := findClass_of_methodNamed B.named
  subst hsz
  have hl := lv_entry av (n := maxL) hn
  rw [lg_entry_eq]
  generalize (lg_sl av ++ List.replicate (maxL - (lg_sl av).length) Slot.unset).toArray = ls at hl ⊢
  refine body p e s m below meth c _ (fun q : Nat => s.heap.size ≤ q) ls ⟨B.exec, B.bytes, hml, hown, hts⟩ hJ (fun q h => h) ?_ hl va_S.rf
  intro H locs pc ls hd hS
  exact W.vret B.exec B.bytes B.returns (fun t ht hW => ⟨⟨(), rfl, trivial, trivial⟩, hS.F ht⟩) hS.2.2 hd B.notSynchronized
theorem jblind {av : List Value} {sz ak aw : Nat} : FrameBlind (va_Pc av (jPre sz ak aw)) := fun a U g mk q => by
  obtain ⟨q0, q1, q2⟩ := q
  exact ⟨q0, q1, jS.mv (u := U) (U := U.calling g mk a) (Vm.Alike.refl U.vm) q2⟩
theorem jpreS {As : List Value} {A : Nat → Prop} {H : Heap} {s : State} {locs : List Loc} {ak aw : Nat} (hJ : jS A s s.heap ak aw) (hS : va_S A s.heap H locs) (hA : ∀ q, s.heap.size ≤ q → A q) : PreS s H (va_Pc As (jPre H.size ak aw)) As :=
  ⟨jblind, fun U hU hW => ⟨rfl, by rw [hU], by rw [hU]; exact hJ.go hS hW.alike (fun q h => hA q (Nat.le_trans hS.1 h))⟩⟩
theorem jpreV {As : List Value} {A : Nat → Prop} {H : Heap} {s : State} {locs : List Loc} {ak aw : Nat} (hJ : jS A s s.heap ak aw) (hS : va_S A s.heap H locs) (hA : ∀ q, s.heap.size ≤ q → A q) : PreV s H "java/lang/String" ak (va_Pc (.ref ak :: As) (jPre H.size ak aw)) As :=
  ⟨jblind, by obtain ⟨cell, h1, h2, h3, -⟩ := hJ.1.kept hS.2.1; exact ⟨cell, h1, h2, h3⟩, fun U hU hW => ⟨rfl, by rw [hU], by rw [hU]; exact hJ.go hS hW.alike (fun q h => hA q (Nat.le_trans hS.1 h))⟩⟩
section JC
variable {p : Program} {l : Launch} {e : Env} {R : Room} {s : State} {m : MethodId} {args : Array Value} {below : List Frame} {meth : Method} {c : Code} {H : Heap} {locs : List Loc} {cells slots : Nat} {Q : State → Prop}
variable {pc : Nat} {ls : Array Slot} {rest st0 : List Value} {a : Array Value} {A : Nat → Prop} {H0 : Heap}
theorem jc_i {K : Int32 → Prop} (hr : va_Run p l e R s m args below meth c H locs cells slots 0 0 (F0 m pc ls st0) rest (va_Qi (fun r (_ : Unit) => K r) (fun _ _ => True) (fun q : Nat => H.size ≤ q) a) (fun q : Nat => H.size ≤ q)) (hS : va_S A H0 H locs) (hA : ∀ q, H0.size ≤ q → A q)
    (kk : ∀ (r : Int32) (H1 : Heap) (locs1 : List Loc), K r → (∀ q : Nat, q < H.size → H1[q]? = H[q]?) → va_S A H0 H1 locs1 → W p l e R s m args below meth c H1 locs1 cells slots Q (F0 m (pc + 3) ls (.int r :: rest))) : W p l e R s m args below meth c H locs cells slots Q (F0 m pc ls st0) := by
  refine va_calli hr hS (fun q h1 h2 => absurd h2 (Nat.not_le.mpr h1)) (fun q h => hA q (Nat.le_trans hS.1 h)) (fun r u t H1 locs1 ht hvm hw hB hz1 hk1 hS1 => ?_)
  exact kk r H1 locs1 hw (fun q h => hk1 q h (Nat.not_le.mpr h)) hS1
theorem jc_v (hr : va_Run p l e R s m args below meth c H locs cells slots 0 0 (F0 m pc ls st0) rest (va_Qv (fun (_ : Unit) => True) (fun _ _ => True) (fun q : Nat => H.size ≤ q) a) (fun q : Nat => H.size ≤ q)) (hS : va_S A H0 H locs) (hA : ∀ q, H0.size ≤ q → A q)
    (kk : ∀ (H1 : Heap) (locs1 : List Loc), (∀ q : Nat, q < H.size → H1[q]? = H[q]?) → va_S A H0 H1 locs1 → W p l e R s m args below meth c H1 locs1 cells slots Q (F0 m (pc + 3) ls rest)) : W p l e R s m args below meth c H locs cells slots Q (F0 m pc ls st0) := by
  refine va_callv hr hS (fun q h1 h2 => absurd h2 (Nat.not_le.mpr h1)) (fun q h => hA q (Nat.le_trans hS.1 h)) (fun u t H1 locs1 ht hvm hw hB hz1 hk1 hS1 => ?_)
  exact kk H1 locs1 (fun q h => hk1 q h (Nat.not_le.mpr h)) hS1
end JC
theorem jP_kept {G : kG} {ws : va_W} {H H1 : Heap} (hP : va_P G.1 vwCl ws H) (hk : ∀ q : Nat, q < H.size → H1[q]? = H[q]?) : va_P G.1 vwCl ws H1 := fun k q hq => (hP k q hq).kept (hk q.1 (hP k q hq).lt)
theorem jch : ∀ k, k < 121 → (((nI (t00 k) &&& 255).toUInt32 % 65536).toInt32 = nI (t00 k) ∧ (nI (t00 k)).toUInt32.toUInt16.toUInt32.toInt32 = nI (t00 k)) := by decide +kernel
abbrev rmJ0 : Room := { frames := 0, cells := 0, slots := 0, locals := 0 }
abbrev rmJ1 : Room := { frames := 1, cells := 0, slots := 0, locals := 22 }
abbrev rmJ2 : Room := { frames := 2, cells := 0, slots := 0, locals := 43 }
abbrev rmJ3 : Room := { frames := 3, cells := 0, slots := 0, locals := 64 }
set_option maxHeartbeats 4000000 in
set_option maxRecDepth 100000 in
theorem MJ0_coder (l : Launch) (ak aw : Nat) : jI l yJ0_coder_7d493 wsJ0_coder_7d493 rmJ0 [.ref ak] ak aw (fun r => r = 0) := by
  refine jI_of (cc := cJ0_coder_7d493) (maxL := 1) (ret := .byte) (by decide) rfl (Nat.le_of_ble_eq_true rfl) ?_
  intro p e s m below meth c Q A ls Fx hJ hA hret hl hS
  obtain ⟨hx, hb, hml, hown, hts⟩ := id Fx
  have hown : s.vm.findClass RJ0 = some m.cls := hown
  have hl : lv_has ls 1 [(0, .ref ak)] := hl
  refine va_gets hx hb hJ.2.2.2.2.1 hS hown (hts (.fieldLink RJ0 38 "java/lang/String" "COMPACT_STRINGS" "Z") (by decide +kernel)) (fun _ h9 => h9) dJ0_coder_7d493_0 ?_
  refine lv_if_eq (tgt := 13) hx hb dJ0_coder_7d493_3 (by decide) (fun hc => absurd hc (by decide)) (fun _ => ?_)
  refine lv_aload_n hx hb dJ0_coder_7d493_6 rfl (lv_at hl 0 rfl) ?_
  refine vk_getf hx hb hJ.2.1 hS hown (hts (.fieldLink RJ0 15 "java/lang/String" "coder" "B") (by decide +kernel)) (fun _ h9 => h9) dJ0_coder_7d493_7 ?_
  refine lv_goto (tgt := 14) hx hb dJ0_coder_7d493_10 (by decide) ?_
  exact hret _ _ _ _ _ rfl dJ0_coder_7d493_14 rfl hS
set_option maxHeartbeats 4000000 in
set_option maxRecDepth 100000 in
theorem MJ0_isLatin1 (l : Launch) (ak aw : Nat) : jI l yJ0_isLatin1_aae02 wsJ0_isLatin1_aae02 rmJ0 [.ref ak] ak aw (fun r => r = 1) := by
  refine jI_of (cc := cJ0_isLatin1_aae02) (maxL := 1) (ret := .boolean) (by decide) rfl (Nat.le_of_ble_eq_true rfl) ?_
  intro p e s m below meth c Q A ls Fx hJ hA hret hl hS
  obtain ⟨hx, hb, hml, hown, hts⟩ := id Fx
  have hown : s.vm.findClass RJ0 = some m.cls := hown
  have hl : lv_has ls 1 [(0, .ref ak)] := hl
  refine va_gets hx hb hJ.2.2.2.2.1 hS hown (hts (.fieldLink RJ0 38 "java/lang/String" "COMPACT_STRINGS" "Z") (by decide +kernel)) (fun _ h9 => h9) dJ0_isLatin1_aae02_0 ?_
  refine lv_if_eq (tgt := 17) hx hb dJ0_isLatin1_aae02_3 (by decide) (fun hc => absurd hc (by decide)) (fun _ => ?_)
  refine lv_aload_n hx hb dJ0_isLatin1_aae02_6 rfl (lv_at hl 0 rfl) ?_
  refine vk_getf hx hb hJ.2.1 hS hown (hts (.fieldLink RJ0 15 "java/lang/String" "coder" "B") (by decide +kernel)) (fun _ h9 => h9) dJ0_isLatin1_aae02_7 ?_
  refine lv_if_ne (tgt := 17) hx hb dJ0_isLatin1_aae02_10 (by decide) (fun hc => absurd rfl hc) (fun _ => ?_)
  refine lv_iconst (v := 1) hx hb dJ0_isLatin1_aae02_13 (by decide) ?_
  refine lv_goto (tgt := 18) hx hb dJ0_isLatin1_aae02_14 (by decide) ?_
  exact hret _ _ _ _ _ rfl dJ0_isLatin1_aae02_18 rfl hS
set_option maxHeartbeats 4000000 in
set_option maxRecDepth 100000 in
theorem MJ3_check (l : Launch) (ak aw k : Nat) (hk : k < 121) (f : Value) (hf : f = .null ∨ ∃ t, f = .ref t) : jI l yJ3_checkIndex_8e157 wsJ3_checkIndex_8e157 rmJ0 [.int (nI k), .int 121, f] ak aw (fun _ => True) := by
  have hn : (lg_sl [.int (nI k), .int 121, f]).length ≤ 3 := by
    rcases hf with rfl | ⟨t, rfl⟩
    · exact Nat.le_of_ble_eq_true rfl
    · exact Nat.le_of_ble_eq_true rfl
  have hl2 : ∀ ls : Array Slot, lv_has ls 3 (lv_args 0 [.int (nI k), .int 121, f]) → lv_has ls 3 [(0, .int (nI k)), (1, .int 121)] := by
    intro ls hl
    rcases hf with rfl | ⟨t, rfl⟩
    · exact lv_sub hl [0, 1] rfl
    · exact lv_sub hl [0, 1] rfl
  refine jI_of (cc := cJ3_checkIndex_8e157) (maxL := 3) (ret := .int) (by decide) rfl hn ?_
  intro p e s m below meth c Q A ls Fx hJ hA hret hl hS
  obtain ⟨hx, hb, hml, hown, hts⟩ := id Fx
  have hl := hl2 ls hl
  refine lv_iload_n hx hb dJ3_checkIndex_8e157_0 rfl (lv_at hl 0 rfl) ?_
  refine lv_if_lt (tgt := 9) hx hb dJ3_checkIndex_8e157_1 (by decide) (fun hc => absurd hc (nI_pos (by omega))) (fun _ => ?_)
  refine lv_iload_n hx hb dJ3_checkIndex_8e157_4 rfl (lv_at hl 0 rfl) ?_
  refine lv_iload_n hx hb dJ3_checkIndex_8e157_5 rfl (lv_at hl 1 rfl) ?_
  refine lv_icmp_lt (tgt := 16) hx hb dJ3_checkIndex_8e157_6 (by decide) (fun _ => ?_) (fun hc => absurd (nI_lt (a := k) (b := 121) hk (by omega)) hc)
  refine lv_iload_n hx hb dJ3_checkIndex_8e157_16 rfl (lv_at hl 0 rfl) ?_
  exact hret _ _ _ _ _ rfl dJ3_checkIndex_8e157_17 trivial hS
set_option maxHeartbeats 4000000 in
set_option maxRecDepth 100000 in
theorem MJ0_check (l : Launch) (ak aw k : Nat) (hk : k < 121) : jV l yJ0_checkIndex_df160 wsJ0_checkIndex_df160 rmJ1 [.int (nI k), .int 121] ak aw := by
  refine jV_of (cc := cJ0_checkIndex_df160) (maxL := 2) (by decide) rfl (Nat.le_of_ble_eq_true rfl) ?_
  intro p e s m below meth c Q A ls Fx hJ hA hret hl hS
  obtain ⟨hx, hb, hml, hown, hts⟩ := id Fx
  have hown : s.vm.findClass RJ0 = some m.cls := hown
  have hl : lv_has ls 2 [(0, .int (nI k)), (1, .int 121)] := hl
  have hf : ∃ f, (f = .null ∨ ∃ t, f = .ref t) ∧ va_Z "jdk/internal/util/Preconditions" "SIOOBE_FORMATTER" "Ljava/util/function/BiFunction;" f A s s.heap := by
    rcases hJ.2.2.2.2.2 with h | ⟨t, h⟩
    · exact ⟨_, Or.inl rfl, h⟩
    · exact ⟨_, Or.inr ⟨t, rfl⟩, h⟩
  obtain ⟨f, hf, hZ⟩ := hf
  refine lv_iload_n hx hb dJ0_checkIndex_df160_0 rfl (lv_at hl 0 rfl) ?_
  refine lv_iload_n hx hb dJ0_checkIndex_df160_1 rfl (lv_at hl 1 rfl) ?_
  refine va_gets hx hb hZ hS hown (hts (.fieldLink RJ0 1053 "jdk/internal/util/Preconditions" "SIOOBE_FORMATTER" "Ljava/util/function/BiFunction;") (by decide +kernel)) (fun _ h9 => h9) dJ0_checkIndex_df160_2 ?_
  refine jc_i (va_runS (As := [.int (nI k), .int 121, f]) (rest := []) Fx (MJ3_check l ak aw k hk f hf s.heap.size) (va_cwS 3 hts gJ0_checkIndex_df160_J3_checkIndex_8e157 rfl rfl rfl (by decide +kernel) ⟨Nat.le_of_ble_eq_true rfl, Nat.le_of_ble_eq_true rfl⟩) (jpreS hJ hS hA) rfl rfl hl.1 rfl (lv_room (Nat.le_of_ble_eq_true rfl)) dJ0_checkIndex_df160_5 ⟨Nat.le_of_ble_eq_true rfl, Nat.le_of_ble_eq_true rfl⟩) hS hA (fun r H locs _ _ hS => ?_)
  refine lv_pop hx hb dJ0_checkIndex_df160_8 rfl ?_
  exact hret _ _ _ _ dJ0_checkIndex_df160_9 hS
set_option maxHeartbeats 4000000 in
set_option maxRecDepth 100000 in
theorem MJ1_charAt (l : Launch) (ak aw k : Nat) (hk : k < 121) : jI l yJ1_charAt_3b067 wsJ1_charAt_3b067 rmJ2 [.ref aw, .int (nI k)] ak aw (fun r => r = nI (t00 k)) := by
  refine jI_of (cc := cJ1_charAt_3b067) (maxL := 2) (ret := .char) (by decide) rfl (Nat.le_of_ble_eq_true rfl) ?_
  intro p e s m below meth c Q A ls Fx hJ hA hret hl hS
  obtain ⟨hx, hb, hml, hown, hts⟩ := id Fx
  have hown : s.vm.findClass RJ1 = some m.cls := hown
  have hl : lv_has ls 2 [(0, .ref aw), (1, .int (nI k))] := hl
  refine lv_iload_n hx hb dJ1_charAt_3b067_0 rfl (lv_at hl 1 rfl) ?_
  refine lv_aload_n hx hb dJ1_charAt_3b067_1 rfl (lv_at hl 0 rfl) ?_
  refine va_tlen hx hb hJ.2.2.2.1 hS (v := 121) rfl dJ1_charAt_3b067_2 ?_
  refine jc_v (va_runS (As := [.int (nI k), .int 121]) (rest := []) Fx (MJ0_check l ak aw k hk s.heap.size) (va_cwS 2 hts gJ1_charAt_3b067_J0_checkIndex_df160 rfl rfl rfl (by decide +kernel) ⟨Nat.le_of_ble_eq_true rfl, Nat.le_of_ble_eq_true rfl⟩) (jpreS hJ hS hA) rfl rfl hl.1 rfl (lv_room (Nat.le_of_ble_eq_true rfl)) dJ1_charAt_3b067_3 ⟨Nat.le_of_ble_eq_true rfl, Nat.le_of_ble_eq_true rfl⟩) hS hA (fun H locs _ hS => ?_)
  refine lv_aload_n hx hb dJ1_charAt_3b067_6 rfl (lv_at hl 0 rfl) ?_
  refine lv_iload_n hx hb dJ1_charAt_3b067_7 rfl (lv_at hl 1 rfl) ?_
  refine va_tb hx hb hJ.2.2.2.1 hS (nI_in hk (by omega)) (v := .int (nI (t00 k))) (by rw [nI_clamp (by omega)]) dJ1_charAt_3b067_8 ?_
  refine lv_sipush (v := 255) hx hb dJ1_charAt_3b067_9 (by decide) ?_
  refine lv_iand hx hb dJ1_charAt_3b067_12 ?_
  refine lv_i2c (v := nI (t00 k)) hx hb dJ1_charAt_3b067_13 (jch k hk).1 ?_
  exact hret _ _ _ _ _ (congrArg Value.int (jch k hk).2) dJ1_charAt_3b067_14 rfl hS
set_option maxHeartbeats 4000000 in
set_option maxRecDepth 100000 in
theorem MJ0_charAt (l : Launch) (ak aw k : Nat) (hk : k < 121) : jI l yJ0_charAt_5068e wsJ0_charAt_5068e rmJ3 [.ref ak, .int (nI k)] ak aw (fun r => r = nI (t00 k)) := by
  refine jI_of (cc := cJ0_charAt_5068e) (maxL := 2) (ret := .char) (by decide) rfl (Nat.le_of_ble_eq_true rfl) ?_
  intro p e s m below meth c Q A ls Fx hJ hA hret hl hS
  obtain ⟨hx, hb, hml, hown, hts⟩ := id Fx
  have hown : s.vm.findClass RJ0 = some m.cls := hown
  have hl : lv_has ls 2 [(0, .ref ak), (1, .int (nI k))] := hl
  refine lv_aload_n hx hb dJ0_charAt_5068e_0 rfl (lv_at hl 0 rfl) ?_
  refine jc_i (va_runV (As := []) (rest := []) Fx (MJ0_isLatin1 l ak aw s.heap.size) (cwV 0 hts gJ0_charAt_5068e_J0_isLatin1_aae02 rfl rfl rfl (by decide +kernel) ⟨Nat.le_of_ble_eq_true rfl, Nat.le_of_ble_eq_true rfl⟩) (jpreV hJ hS hA) rfl rfl hl.1 rfl (lv_room (Nat.le_of_ble_eq_true rfl)) dJ0_charAt_5068e_1 ⟨Nat.le_of_ble_eq_true rfl, Nat.le_of_ble_eq_true rfl⟩) hS hA (fun r H locs hr _ hS => ?_)
  subst hr
  refine lv_if_eq (tgt := 16) hx hb dJ0_charAt_5068e_4 (by decide) (fun hc => absurd hc (by decide)) (fun _ => ?_)
  refine lv_aload_n hx hb dJ0_charAt_5068e_7 rfl (lv_at hl 0 rfl) ?_
  refine vk_getf hx hb hJ.2.2.1 hS hown (hts (.fieldLink RJ0 9 "java/lang/String" "value" "[B") (by decide +kernel)) (fun _ h9 => h9) dJ0_charAt_5068e_8 ?_
  refine lv_iload_n hx hb dJ0_charAt_5068e_11 rfl (lv_at hl 1 rfl) ?_
  refine jc_i (va_runS (As := [.ref aw, .int (nI k)]) (rest := []) Fx (MJ1_charAt l ak aw k hk H.size) (va_cwS 2 hts gJ0_charAt_5068e_J1_charAt_3b067 rfl rfl rfl (by decide +kernel) ⟨Nat.le_of_ble_eq_true rfl, Nat.le_of_ble_eq_true rfl⟩) (jpreS hJ hS hA) rfl rfl hl.1 rfl (lv_room (Nat.le_of_ble_eq_true rfl)) dJ0_charAt_5068e_12 ⟨Nat.le_of_ble_eq_true rfl, Nat.le_of_ble_eq_true rfl⟩) hS hA (fun r H locs hr _ hS => ?_)
  subst hr
  exact hret _ _ _ _ _ (congrArg Value.int (jch k hk).2) dJ0_charAt_5068e_15 rfl hS
set_option maxHeartbeats 4000000 in
set_option maxRecDepth 100000 in
theorem MJ0_length (l : Launch) (ak aw : Nat) : jI l yJ0_length_8abf5 wsJ0_length_8abf5 rmJ1 [.ref ak] ak aw (fun r => r = 121) := by
  refine jI_of (cc := cJ0_length_8abf5) (maxL := 1) (ret := .int) (by decide) rfl (Nat.le_of_ble_eq_true rfl) ?_
  intro p e s m below meth c Q A ls Fx hJ hA hret hl hS
  obtain ⟨hx, hb, hml, hown, hts⟩ := id Fx
  have hown : s.vm.findClass RJ0 = some m.cls := hown
  have hl : lv_has ls 1 [(0, .ref ak)] := hl
  refine lv_aload_n hx hb dJ0_length_8abf5_0 rfl (lv_at hl 0 rfl) ?_
  refine vk_getf hx hb hJ.2.2.1 hS hown (hts (.fieldLink RJ0 9 "java/lang/String" "value" "[B") (by decide +kernel)) (fun _ h9 => h9) dJ0_length_8abf5_1 ?_
  refine va_tlen hx hb hJ.2.2.2.1 hS (v := 121) rfl dJ0_length_8abf5_4 ?_
  refine lv_aload_n hx hb dJ0_length_8abf5_5 rfl (lv_at hl 0 rfl) ?_
  refine jc_i (va_runV (As := []) (rest := [.int 121]) Fx (MJ0_coder l ak aw s.heap.size) (cwV 0 hts gJ0_length_8abf5_J0_coder_7d493 rfl rfl rfl (by decide +kernel) ⟨Nat.le_of_ble_eq_true rfl, Nat.le_of_ble_eq_true rfl⟩) (jpreV hJ hS hA) rfl rfl hl.1 rfl (lv_room (Nat.le_of_ble_eq_true rfl)) dJ0_length_8abf5_6 ⟨Nat.le_of_ble_eq_true rfl, Nat.le_of_ble_eq_true rfl⟩) hS hA (fun r H locs hr _ hS => ?_)
  subst hr
  refine lv_ishr hx hb dJ0_length_8abf5_9 ?_
  exact hret _ _ _ _ _ rfl dJ0_length_8abf5_10 (by decide) hS
