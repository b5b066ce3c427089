/-! String.charAt, String.length over the machine: contracts of the methods that they run through -/
def js_ws (y : MethodName) (c : ByteArray) (n : Nat) (ret : Option FieldType) : List Cond := Cond.code y c n ret :: mk_tb
def js_A (sz : Nat) : Nat → Prop := fun q => sz ≤ q
/-- the text a, its bytes in the row v -/
def js_St (a v n : Nat) (f : Nat → Int32) (A : Nat → Prop) (U : State) : Prop := va_O RJ0 a A U U.heap ∧ va_OF RJ0 "coder" "B" (.int 0) a A U U.heap ∧ va_OF RJ0 "value" "[B" (.ref v) a A U U.heap ∧ va_T .byte v n (fun j => .int (f j)) A U U.heap
def jsV : Option Nat → Value
  | none => .null
  | some a => .ref a
def js_Cs (fo : Option Nat) (A : Nat → Prop) (U : State) : Prop := va_Z RJ0 "COMPACT_STRINGS" "Z" (.int 1) A U U.heap ∧ va_Z RJ3 "SIOOBE_FORMATTER" "Ljava/util/function/BiFunction;" (jsV fo) A U U.heap
theorem js_St.mv {a v n : Nat} {f : Nat → Int32} {A B : Nat → Prop} {u U : State} (hW : u.WarmedH U.vm) (hq : ∀ x : Nat, x < u.heap.size → ¬ A x → U.heap[x]? = u.heap[x]?) (hAB : ∀ q, B q → A q) (h : js_St a v n f A u) : js_St a v n f B U :=
  ⟨((va_O.moved hW.alike h.1).kept hq).narrow hAB, ((va_OF.moved hW.alike h.2.1).kept hq).narrow hAB, ((va_OF.moved hW.alike h.2.2.1).kept hq).narrow hAB, ((va_T.moved hW.alike h.2.2.2).kept hq).narrow hAB⟩
theorem js_Cs.mv {fo : Option Nat} {A B : Nat → Prop} {u U : State} (hW : u.WarmedH U.vm) (hq : ∀ x : Nat, x < u.heap.size → ¬ A x → U.heap[x]? = u.heap[x]?) (hAB : ∀ q, B q → A q) (h : js_Cs fo A u) : js_Cs fo B U :=
  ⟨((va_Z.moved hW.alike h.1).kept hq).narrow hAB, ((va_Z.moved hW.alike h.2).kept hq).narrow hAB⟩
def js_P (as : List Value) (sz : Nat) (fo : Option Nat) (a v n : Nat) (f : Nat → Int32) : Array Value → State → Prop := va_Pc as (fun U => U.heap.size = sz ∧ js_Cs fo (js_A sz) U ∧ js_St a v n f (js_A sz) U)
def js_Qi (x : Int32) (sz : Nat) : Array Value → State → Outcome → State → Prop := va_Qi (fun r (_ : Unit) => r = x) (fun _ _ => True) (js_A sz)
def js_Qv (sz : Nat) : Array Value → State → Outcome → State → Prop := va_Qv (fun (_ : Unit) => True) (fun _ _ => True) (js_A sz)
def js_rm (fr lo : Nat) : Room := { frames := fr, cells := 0, slots := 0, locals := lo }
theorem js_blind {as : List Value} {sz a v n : Nat} {fo : Option Nat} {f : Nat → Int32} : FrameBlind (js_P as sz fo a v n f) := by
  intro a' U g mk q
  obtain ⟨q0, q1, q2, q3⟩ := q
  exact ⟨q0, q1, js_Cs.mv (u := U) (U := U.calling g mk a') (State.WarmedH.refl U) (fun _ _ _ => rfl) (fun _ h => h) q2, js_St.mv (u := U) (U := U.calling g mk a') (State.WarmedH.refl U) (fun _ _ _ => rfl) (fun _ h => h) q3⟩
theorem js_pre {s : State} {H : Heap} {locs : List Loc} {A : Nat → Prop} {as : List Value} {a v n : Nat} {fo : Option Nat} {f : Nat → Int32} (hC : js_Cs fo A s) (hT : js_St a v n f A s) (hS : va_S A s.heap H locs) (hA : ∀ q, s.heap.size ≤ q → A q) : ∀ U : State, U.heap = H → s.WarmedH U.vm → js_P as H.size fo a v n f as.toArray U :=
  fun U hU hW => ⟨rfl, by rw [hU], hC.mv hW (fun x hx hn => by rw [hU]; exact hS.2.1 x hx hn) (fun q hq => hA q (Nat.le_trans hS.1 hq)), hT.mv hW (fun x hx hn => by rw [hU]; exact hS.2.1 x hx hn) (fun q hq => hA q (Nat.le_trans hS.1 hq))⟩
section JSR
variable {p : Program} {l : Launch} {e : Env} {R : Room} {s : State} {m : MethodId} {args : Array Value} {below : List Frame} {meth : Method} {c : Code} {H : Heap} {locs : List Loc} {cells slots : Nat} {own : String} {cc : ByteArray} {nL pc index : Nat} {ls : Array Slot}
theorem js_runS (S : CallFix p m c cc nL s args mk_tb own) {y : MethodName} {bytes : ByteArray} {maxL : Nat} {ret : Option FieldType} {rm : Room} {Pc : Array Value → State → Prop} {Qc : Array Value → State → Outcome → State → Prop} {free : Addr → Prop} {mc ms : Nat} {As rest : List Value} (hM : Met l y (js_ws y bytes maxL ret) rm Pc Qc mc ms free) (hrc : rm.cells = mc) (hrs : rm.slots = ms)
    (h1 : Cond.methodLink own index y ∈ mk_tb) (h2 : Cond.static y ∈ mk_tb) (h3 : Cond.initialized y.cls ∈ mk_tb) (h4 : Cond.code y bytes maxL ret ∈ mk_tb) (hd : y.cls ≠ "java/lang/invoke/MethodHandle" ∧ y.cls ≠ "java/lang/invoke/VarHandle" ∧ (parseMethodDescriptor y.desc).map (fun d => d.parameters.length) = some As.length) (hR : rm.frames + 1 ≤ R.frames ∧ 8 + (maxL + 11) + rm.locals ≤ R.locals)
    (hp : FrameBlind Pc ∧ ∀ U : State, U.heap = H → s.WarmedH U.vm → Pc As.toArray U) (hs : ls.size = nL) (hcat : (rest.map fun v => v.category).sum ≤ 8) (hdg : decode cc pc = .ok (.invokestatic index, 3)) (hf : cells + mc ≤ R.cells ∧ slots + ms ≤ R.slots) :
    va_Run p l e R s m args below meth c H locs cells slots mc ms (F0 m pc ls (As.reverse ++ rest)) rest (Qc As.toArray) free := by
  refine va_runS (bytes := bytes) (maxL := maxL) (ret := ret) (As := As) (n := As.length) S hM ?_ hp rfl rfl hs rfl (lv_room hcat) hdg hf
  refine va_cwS (ws' := mk_tb) As.length S.2.2.2.2 (mk_gin ?_) rfl hrc hrs hd hR
  intro w hw
  unfold va_wsS at hw
  rcases List.mem_append.mp hw with hw | hw
  · rcases List.mem_cons.mp hw with rfl | hw
    · exact h1
    rcases List.mem_cons.mp hw with rfl | hw
    · exact h2
    rcases List.mem_cons.mp hw with rfl | hw
    · exact h3
    · cases hw
  · rcases List.mem_cons.mp hw with rfl | hw
    · exact h4
    · exact hw
theorem js_runV (S : CallFix p m c cc nL s args mk_tb own) {y : MethodName} {bytes : ByteArray} {maxL : Nat} {ret : Option FieldType} {rm : Room} {Pc : Array Value → State → Prop} {Qc : Array Value → State → Outcome → State → Prop} {free : Addr → Prop} {mc ms : Nat} {As rest : List Value} {b : Nat} (hM : Met l y (js_ws y bytes maxL ret) rm Pc Qc mc ms free) (hrc : rm.cells = mc) (hrs : rm.slots = ms)
    (h1 : Cond.methodLink own index y ∈ mk_tb) (h2 : Cond.instanceMethod y ∈ mk_tb) (h5 : Cond.selects y.cls y y ∈ mk_tb) (h3 : Cond.initialized y.cls ∈ mk_tb) (h4 : Cond.code y bytes maxL ret ∈ mk_tb) (hd : y.cls = y.cls ∧ y.cls ≠ "java/lang/invoke/MethodHandle" ∧ y.cls ≠ "java/lang/invoke/VarHandle" ∧ (parseMethodDescriptor y.desc).map (fun d => d.parameters.length) = some As.length) (hR : rm.frames + 1 ≤ R.frames ∧ 8 + (maxL + 11) + rm.locals ≤ R.locals)
    (hrecv : ∃ cell : Cell, H[b]? = some cell ∧ cell.vm.isStatics = false ∧ s.vm.findClass y.cls = some cell.cls)
    (hp : FrameBlind Pc ∧ ∀ U : State, U.heap = H → s.WarmedH U.vm → Pc (Value.ref b :: As).toArray U) (hs : ls.size = nL) (hcat : (rest.map fun v => v.category).sum ≤ 8) (hdg : decode cc pc = .ok (.invokevirtual index, 3)) (hf : cells + mc ≤ R.cells ∧ slots + ms ≤ R.slots) :
    va_Run p l e R s m args below meth c H locs cells slots mc ms (F0 m pc ls (As.reverse ++ .ref b :: rest)) rest (Qc (Value.ref b :: As).toArray) free := by
  refine va_runV (bytes := bytes) (maxL := maxL) (ret := ret) (As := As) (b := b) (C := y.cls) (n := As.length) S hM ?_ ⟨hp.1, hrecv, hp.2⟩ rfl rfl hs rfl (lv_room hcat) hdg hf
  refine cwV (ws' := mk_tb) As.length S.2.2.2.2 (mk_gin ?_) rfl hrc hrs hd hR
  intro w hw
  unfold wsV at hw
  rcases List.mem_append.mp hw with hw | hw
  · rcases List.mem_cons.mp hw with rfl | hw
    · exact h1
    rcases List.mem_cons.mp hw with rfl | hw
    · exact h2
    rcases List.mem_cons.mp hw with rfl | hw
    · exact h5
    rcases List.mem_cons.mp hw with rfl | hw
    · exact h3
    · cases hw
  · rcases List.mem_cons.mp hw with rfl | hw
    · exact h4
    · exact hw
end JSR
theorem dJ0_length_8abf5_0 : decode cJ0_length_8abf5 0 = .ok (.aload_n 0, 1) := by decide +kernel
theorem dJ0_length_8abf5_1 : decode cJ0_length_8abf5 1 = .ok (.getfield 9, 3) := by decide +kernel
theorem dJ0_length_8abf5_4 : decode cJ0_length_8abf5 4 = .ok (.arraylength, 1) := by decide +kernel
theorem dJ0_length_8abf5_5 : decode cJ0_length_8abf5 5 = .ok (.aload_n 0, 1) := by decide +kernel
theorem dJ0_length_8abf5_6 : decode cJ0_length_8abf5 6 = .ok (.invokevirtual 335, 3) := by decide +kernel
theorem dJ0_length_8abf5_9 : decode cJ0_length_8abf5 9 = .ok (.ishr, 1) := by decide +kernel
theorem dJ0_length_8abf5_10 : decode cJ0_length_8abf5 10 = .ok (.ireturn, 1) := by decide +kernel
theorem dJ0_charAt_5068e_0 : decode cJ0_charAt_5068e 0 = .ok (.aload_n 0, 1) := by decide +kernel
theorem dJ0_charAt_5068e_1 : decode cJ0_charAt_5068e 1 = .ok (.invokevirtual 492, 3) := by decide +kernel
theorem dJ0_charAt_5068e_4 : decode cJ0_charAt_5068e 4 = .ok (.ifCond .eq 12, 3) := by decide +kernel
theorem dJ0_charAt_5068e_7 : decode cJ0_charAt_5068e 7 = .ok (.aload_n 0, 1) := by decide +kernel
theorem dJ0_charAt_5068e_8 : decode cJ0_charAt_5068e 8 = .ok (.getfield 9, 3) := by decide +kernel
theorem dJ0_charAt_5068e_11 : decode cJ0_charAt_5068e 11 = .ok (.iload_n 1, 1) := by decide +kernel
theorem dJ0_charAt_5068e_12 : decode cJ0_charAt_5068e 12 = .ok (.invokestatic 495, 3) := by decide +kernel
theorem dJ0_charAt_5068e_15 : decode cJ0_charAt_5068e 15 = .ok (.ireturn, 1) := by decide +kernel
theorem dJ0_charAt_5068e_16 : decode cJ0_charAt_5068e 16 = .ok (.aload_n 0, 1) := by decide +kernel
theorem dJ0_charAt_5068e_17 : decode cJ0_charAt_5068e 17 = .ok (.getfield 9, 3) := by decide +kernel
theorem dJ0_charAt_5068e_20 : decode cJ0_charAt_5068e 20 = .ok (.iload_n 1, 1) := by decide +kernel
theorem dJ0_charAt_5068e_21 : decode cJ0_charAt_5068e 21 = .ok (.invokestatic 498, 3) := by decide +kernel
theorem dJ0_charAt_5068e_24 : decode cJ0_charAt_5068e 24 = .ok (.ireturn, 1) := by decide +kernel
theorem dJ0_coder_7d493_0 : decode cJ0_coder_7d493 0 = .ok (.getstatic 38, 3) := by decide +kernel
theorem dJ0_coder_7d493_3 : decode cJ0_coder_7d493 3 = .ok (.ifCond .eq 10, 3) := by decide +kernel
theorem dJ0_coder_7d493_6 : decode cJ0_coder_7d493 6 = .ok (.aload_n 0, 1) := by decide +kernel
theorem dJ0_coder_7d493_7 : decode cJ0_coder_7d493 7 = .ok (.getfield 15, 3) := by decide +kernel
theorem dJ0_coder_7d493_10 : decode cJ0_coder_7d493 10 = .ok (.goto 4, 3) := by decide +kernel
theorem dJ0_coder_7d493_13 : decode cJ0_coder_7d493 13 = .ok (.iconst 1, 1) := by decide +kernel
theorem dJ0_coder_7d493_14 : decode cJ0_coder_7d493 14 = .ok (.ireturn, 1) := by decide +kernel
theorem dJ0_isLatin1_aae02_0 : decode cJ0_isLatin1_aae02 0 = .ok (.getstatic 38, 3) := by decide +kernel
theorem dJ0_isLatin1_aae02_3 : decode cJ0_isLatin1_aae02 3 = .ok (.ifCond .eq 14, 3) := by decide +kernel
theorem dJ0_isLatin1_aae02_6 : decode cJ0_isLatin1_aae02 6 = .ok (.aload_n 0, 1) := by decide +kernel
theorem dJ0_isLatin1_aae02_7 : decode cJ0_isLatin1_aae02 7 = .ok (.getfield 15, 3) := by decide +kernel
theorem dJ0_isLatin1_aae02_10 : decode cJ0_isLatin1_aae02 10 = .ok (.ifCond .ne 7, 3) := by decide +kernel
theorem dJ0_isLatin1_aae02_13 : decode cJ0_isLatin1_aae02 13 = .ok (.iconst 1, 1) := by decide +kernel
theorem dJ0_isLatin1_aae02_14 : decode cJ0_isLatin1_aae02 14 = .ok (.goto 4, 3) := by decide +kernel
theorem dJ0_isLatin1_aae02_17 : decode cJ0_isLatin1_aae02 17 = .ok (.iconst 0, 1) := by decide +kernel
theorem dJ0_isLatin1_aae02_18 : decode cJ0_isLatin1_aae02 18 = .ok (.ireturn, 1) := by decide +kernel
theorem dJ0_checkIndex_df160_0 : decode cJ0_checkIndex_df160 0 = .ok (.iload_n 0, 1) := by decide +kernel
theorem dJ0_checkIndex_df160_1 : decode cJ0_checkIndex_df160 1 = .ok (.iload_n 1, 1) := by decide +kernel
theorem dJ0_checkIndex_df160_2 : decode cJ0_checkIndex_df160 2 = .ok (.getstatic 1053, 3) := by decide +kernel
theorem dJ0_checkIndex_df160_5 : decode cJ0_checkIndex_df160 5 = .ok (.invokestatic 1059, 3) := by decide +kernel
theorem dJ0_checkIndex_df160_8 : decode cJ0_checkIndex_df160 8 = .ok (.pop, 1) := by decide +kernel
theorem dJ0_checkIndex_df160_9 : decode cJ0_checkIndex_df160 9 = .ok (.return_, 1) := by decide +kernel
theorem dJ1_charAt_3b067_0 : decode cJ1_charAt_3b067 0 = .ok (.iload_n 1, 1) := by decide +kernel
theorem dJ1_charAt_3b067_1 : decode cJ1_charAt_3b067 1 = .ok (.aload_n 0, 1) := by decide +kernel
theorem dJ1_charAt_3b067_2 : decode cJ1_charAt_3b067 2 = .ok (.arraylength, 1) := by decide +kernel
theorem dJ1_charAt_3b067_3 : decode cJ1_charAt_3b067 3 = .ok (.invokestatic 9, 3) := by decide +kernel
theorem dJ1_charAt_3b067_6 : decode cJ1_charAt_3b067 6 = .ok (.aload_n 0, 1) := by decide +kernel
theorem dJ1_charAt_3b067_7 : decode cJ1_charAt_3b067 7 = .ok (.iload_n 1, 1) := by decide +kernel
theorem dJ1_charAt_3b067_8 : decode cJ1_charAt_3b067 8 = .ok (.baload, 1) := by decide +kernel
theorem dJ1_charAt_3b067_9 : decode cJ1_charAt_3b067 9 = .ok (.sipush 255, 3) := by decide +kernel
theorem dJ1_charAt_3b067_12 : decode cJ1_charAt_3b067 12 = .ok (.iand, 1) := by decide +kernel
theorem dJ1_charAt_3b067_13 : decode cJ1_charAt_3b067 13 = .ok (.i2c, 1) := by decide +kernel
theorem dJ1_charAt_3b067_14 : decode cJ1_charAt_3b067 14 = .ok (.ireturn, 1) := by decide +kernel
theorem dJ3_checkIndex_8e157_0 : decode cJ3_checkIndex_8e157 0 = .ok (.iload_n 0, 1) := by decide +kernel
theorem dJ3_checkIndex_8e157_1 : decode cJ3_checkIndex_8e157 1 = .ok (.ifCond .lt 8, 3) := by decide +kernel
theorem dJ3_checkIndex_8e157_4 : decode cJ3_checkIndex_8e157 4 = .ok (.iload_n 0, 1) := by decide +kernel
theorem dJ3_checkIndex_8e157_5 : decode cJ3_checkIndex_8e157 5 = .ok (.iload_n 1, 1) := by decide +kernel
theorem dJ3_checkIndex_8e157_6 : decode cJ3_checkIndex_8e157 6 = .ok (.if_icmp .lt 10, 3) := by decide +kernel
theorem dJ3_checkIndex_8e157_9 : decode cJ3_checkIndex_8e157 9 = .ok (.aload_n 2, 1) := by decide +kernel
theorem dJ3_checkIndex_8e157_10 : decode cJ3_checkIndex_8e157 10 = .ok (.iload_n 0, 1) := by decide +kernel
theorem dJ3_checkIndex_8e157_11 : decode cJ3_checkIndex_8e157 11 = .ok (.iload_n 1, 1) := by decide +kernel
theorem dJ3_checkIndex_8e157_12 : decode cJ3_checkIndex_8e157 12 = .ok (.invokestatic 95, 3) := by decide +kernel
theorem dJ3_checkIndex_8e157_15 : decode cJ3_checkIndex_8e157 15 = .ok (.athrow, 1) := by decide +kernel
theorem dJ3_checkIndex_8e157_16 : decode cJ3_checkIndex_8e157 16 = .ok (.iload_n 0, 1) := by decide +kernel
theorem dJ3_checkIndex_8e157_17 : decode cJ3_checkIndex_8e157 17 = .ok (.ireturn, 1) := by decide +kernel
section JSC
variable {l : Launch} {fo : Option Nat} {a v n : Nat} {f : Nat → Int32} {sz : Nat}
theorem js_c3 {i k : Int32} (h0 : ¬ i < 0) (h1 : i < k) : Met l yJ3_checkIndex_8e157 (js_ws yJ3_checkIndex_8e157 cJ3_checkIndex_8e157 3 (some .int)) (js_rm 0 0) (js_P [.int i, .int k, jsV fo] sz fo a v n f) (js_Qi i sz) 0 0 (js_A sz) := by
  cases fo with
  | none =>
    refine Met.ofW (cc := cJ3_checkIndex_8e157) (maxL := 3) (ret := some .int) (by decide) rfl ?_
    intro p e s m args below meth c s₁ B hml hv
    obtain ⟨rfl, hsz, -, -⟩ := hv
    have hx := B.exec
    have hb := B.bytes
    have hr := B.returns
    have hlocks := B.notSynchronized
    subst hsz
    have hS : va_S (js_A s.heap.size) s.heap s.heap [] := va_S.rf
    have hl := lv_entry ([.int i, .int k, jsV none]) (n := 3) (Nat.le_of_ble_eq_true rfl)
    rw [lg_entry_eq]
    generalize (lg_sl ([.int i, .int k, jsV none]) ++ List.replicate (3 - (lg_sl ([.int i, .int k, jsV none])).length) Slot.unset).toArray = ls at hl ⊢
    have hl : lv_has ls 3 [(0, .int i), (1, .int k), (2, .null)] := hl
    refine lv_iload_n hx hb dJ3_checkIndex_8e157_0 rfl (lv_at hl 0 rfl) ?_
    refine lv_if_lt hx hb dJ3_checkIndex_8e157_1 (tgt := 9) rfl (fun h => absurd h h0) (fun _ => ?_)
    refine lv_iload_n hx hb dJ3_checkIndex_8e157_4 rfl (lv_at hl 0 rfl) ?_
    refine lv_iload_n hx hb dJ3_checkIndex_8e157_5 rfl (lv_at hl 1 rfl) ?_
    refine lv_icmp_lt hx hb dJ3_checkIndex_8e157_6 (tgt := 16) rfl (fun _ => ?_) (fun h => absurd h1 h)
    refine lv_iload_n hx hb dJ3_checkIndex_8e157_16 rfl (lv_at hl 0 rfl) ?_
    exact W.iret (v := i) hx hb hr (fun t ht hW => ⟨⟨i, (), rfl, rfl, trivial⟩, hS.F ht⟩) hS.2.2 dJ3_checkIndex_8e157_17
  | some fo0 =>
    refine Met.ofW (cc := cJ3_checkIndex_8e157) (maxL := 3) (ret := some .int) (by decide) rfl ?_
    intro p e s m args below meth c s₁ B hml hv
    obtain ⟨rfl, hsz, -, -⟩ := hv
    have hx := B.exec
    have hb := B.bytes
    have hr := B.returns
    have hlocks := B.notSynchronized
    subst hsz
    have hS : va_S (js_A s.heap.size) s.heap s.heap [] := va_S.rf
    have hl := lv_entry ([.int i, .int k, jsV (some fo0)]) (n := 3) (Nat.le_of_ble_eq_true rfl)
    rw [lg_entry_eq]
    generalize (lg_sl ([.int i, .int k, jsV (some fo0)]) ++ List.replicate (3 - (lg_sl ([.int i, .int k, jsV (some fo0)])).length) Slot.unset).toArray = ls at hl ⊢
    have hl : lv_has ls 3 [(0, .int i), (1, .int k), (2, .ref fo0)] := hl
    refine lv_iload_n hx hb dJ3_checkIndex_8e157_0 rfl (lv_at hl 0 rfl) ?_
    refine lv_if_lt hx hb dJ3_checkIndex_8e157_1 (tgt := 9) rfl (fun h => absurd h h0) (fun _ => ?_)
    refine lv_iload_n hx hb dJ3_checkIndex_8e157_4 rfl (lv_at hl 0 rfl) ?_
    refine lv_iload_n hx hb dJ3_checkIndex_8e157_5 rfl (lv_at hl 1 rfl) ?_
    refine lv_icmp_lt hx hb dJ3_checkIndex_8e157_6 (tgt := 16) rfl (fun _ => ?_) (fun h => absurd h1 h)
    refine lv_iload_n hx hb dJ3_checkIndex_8e157_16 rfl (lv_at hl 0 rfl) ?_
    exact W.iret (v := i) hx hb hr (fun t ht hW => ⟨⟨i, (), rfl, rfl, trivial⟩, hS.F ht⟩) hS.2.2 dJ3_checkIndex_8e157_17
theorem js_c2 {i k : Int32} (h0 : ¬ i < 0) (h1 : i < k) : Met l yJ0_checkIndex_df160 (js_ws yJ0_checkIndex_df160 cJ0_checkIndex_df160 2 none) (js_rm 1 30) (js_P [.int i, .int k] sz fo a v n f) (js_Qv sz) 0 0 (js_A sz) := by
  refine Met.ofW (cc := cJ0_checkIndex_df160) (maxL := 2) (ret := none) (by decide) rfl ?_
  intro p e s m args below meth c s₁ B hml hv
  obtain ⟨rfl, hsz, hC, hT⟩ := hv
  have hx := B.exec
  have hb := B.bytes
  have hr := B.returns
  have hlocks := B.notSynchronized
  have hts : ∀ w ∈ mk_tb, w.before [Value.int i, .int k].toArray s = true := fun w hw => atoms_spec (ws := js_ws yJ0_checkIndex_df160 cJ0_checkIndex_df160 2 none) B.pre w (List.mem_cons_of_mem _ hw)
  have hown : s.vm.findClass RJ0 = some m.cls := findClass_of_methodNamed B.named
  have hfx : CallFix p m c cJ0_checkIndex_df160 2 s [Value.int i, .int k].toArray mk_tb RJ0 := ⟨hx, hb, hml, hown, hts⟩
  subst hsz
  have hS : va_S (js_A s.heap.size) s.heap s.heap [] := va_S.rf
  have hA : ∀ q, s.heap.size ≤ q → js_A s.heap.size q := fun _ h => h
  have hl := lv_entry ([.int i, .int k]) (n := 2) (Nat.le_of_ble_eq_true rfl)
  rw [lg_entry_eq]
  generalize (lg_sl ([.int i, .int k]) ++ List.replicate (2 - (lg_sl ([.int i, .int k])).length) Slot.unset).toArray = ls at hl ⊢
  have hl : lv_has ls 2 [(0, .int i), (1, .int k)] := hl
  refine lv_iload_n hx hb dJ0_checkIndex_df160_0 rfl (lv_at hl 0 rfl) ?_
  refine lv_iload_n hx hb dJ0_checkIndex_df160_1 rfl (lv_at hl 1 rfl) ?_
  refine va_gets (own := RJ0) (ref := RJ3) (C := RJ3) (n := "SIOOBE_FORMATTER") (d := "Ljava/util/function/BiFunction;") hx hb hC.2 hS hown (hts _ (mk_t2 50 rfl rfl)) (fun _ h => h) dJ0_checkIndex_df160_2 ?_
  have run := js_runS (l := l) (e := e) (below := below) (meth := meth) (H := s.heap) (locs := []) (cells := 0) (slots := 0) (R := (headSpec (js_ws yJ0_checkIndex_df160 cJ0_checkIndex_df160 2 none) (js_rm 1 30)).room) (ls := ls) (As := [.int i, .int k, jsV fo]) (rest := []) hfx (js_c3 (fo := fo) (a := a) (v := v) (n := n) (f := f) (sz := s.heap.size) h0 h1) rfl rfl (mk_t2 52 rfl rfl) (mk_t2 53 rfl rfl) (mk_t1 11 rfl rfl) (mk_t2 54 rfl rfl) ⟨by decide, by decide, show (parseMethodDescriptor yJ3_checkIndex_8e157.desc).map (fun d => d.parameters.length) = some 3 from by decide +kernel⟩ ⟨by decide, by decide⟩ ⟨js_blind, js_pre hC hT hS hA⟩ hl.1 (by decide) dJ0_checkIndex_df160_5 ⟨Nat.zero_le _, Nat.zero_le _⟩
  refine va_calli run hS (fun q _ h => h) (fun q h => h) (fun r u t H1 locs1 ht hvm hp _ hz1 hk1 hS1 => ?_)
  refine lv_pop hx hb dJ0_checkIndex_df160_8 rfl ?_
  exact W.vret hx hb hr (fun t ht hW => ⟨⟨(), rfl, trivial, trivial⟩, hS1.F ht⟩) hS1.2.2 dJ0_checkIndex_df160_9
theorem js_c1 {j : Nat} (hn : n < 2147483648) (hj : j < n) : Met l yJ1_charAt_3b067 (js_ws yJ1_charAt_3b067 cJ1_charAt_3b067 2 (some .char)) (js_rm 2 60) (js_P [.ref v, .int (nI j)] sz fo a v n f) (js_Qi ((f j &&& 255).toUInt32 % 65536).toInt32 sz) 0 0 (js_A sz) := by
  refine Met.ofW (cc := cJ1_charAt_3b067) (maxL := 2) (ret := some .char) (by decide) rfl ?_
  intro p e s m args below meth c s₁ B hml hv
  obtain ⟨rfl, hsz, hC, hT⟩ := hv
  have hx := B.exec
  have hb := B.bytes
  have hr := B.returns
  have hlocks := B.notSynchronized
  have hts : ∀ w ∈ mk_tb, w.before [Value.ref v, .int (nI j)].toArray s = true := fun w hw => atoms_spec (ws := js_ws yJ1_charAt_3b067 cJ1_charAt_3b067 2 (some .char)) B.pre w (List.mem_cons_of_mem _ hw)
  have hown : s.vm.findClass RJ1 = some m.cls := findClass_of_methodNamed B.named
  have hfx : CallFix p m c cJ1_charAt_3b067 2 s [Value.ref v, .int (nI j)].toArray mk_tb RJ1 := ⟨hx, hb, hml, hown, hts⟩
  have h0 : ¬ nI j < 0 := nI_pos (by omega)
  have h1 : nI j < Int32.ofNat n := nI_lt hj (by omega)
  subst hsz
  have hS : va_S (js_A s.heap.size) s.heap s.heap [] := va_S.rf
  have hA : ∀ q, s.heap.size ≤ q → js_A s.heap.size q := fun _ h => h
  have hl := lv_entry ([.ref v, .int (nI j)]) (n := 2) (Nat.le_of_ble_eq_true rfl)
  rw [lg_entry_eq]
  generalize (lg_sl ([.ref v, .int (nI j)]) ++ List.replicate (2 - (lg_sl ([.ref v, .int (nI j)])).length) Slot.unset).toArray = ls at hl ⊢
  have hl : lv_has ls 2 [(0, .ref v), (1, .int (nI j))] := hl
  refine lv_iload_n hx hb dJ1_charAt_3b067_0 rfl (lv_at hl 1 rfl) ?_
  refine lv_aload_n hx hb dJ1_charAt_3b067_1 rfl (lv_at hl 0 rfl) ?_
  refine va_tlen hx hb hT.2.2.2 hS rfl dJ1_charAt_3b067_2 ?_
  have run := js_runS (l := l) (e := e) (below := below) (meth := meth) (H := s.heap) (locs := []) (cells := 0) (slots := 0) (R := (headSpec (js_ws yJ1_charAt_3b067 cJ1_charAt_3b067 2 (some .char)) (js_rm 2 60)).room) (ls := ls) (As := [.int (nI j), .int (Int32.ofNat n)]) (rest := []) hfx (js_c2 (fo := fo) (a := a) (v := v) (n := n) (f := f) (sz := s.heap.size) h0 h1) rfl rfl (mk_t2 47 rfl rfl) (mk_t2 48 rfl rfl) (mk_t1 9 rfl rfl) (mk_t2 49 rfl rfl) ⟨by decide, by decide, show (parseMethodDescriptor yJ0_checkIndex_df160.desc).map (fun d => d.parameters.length) = some 2 from by decide +kernel⟩ ⟨by decide, by decide⟩ ⟨js_blind, js_pre hC hT hS hA⟩ hl.1 (by decide) dJ1_charAt_3b067_3 ⟨Nat.zero_le _, Nat.zero_le _⟩
  refine va_callv run hS (fun q _ h => h) (fun q h => h) (fun u t H1 locs1 ht hvm hp _ hz1 hk1 hS1 => ?_)
  refine lv_aload_n hx hb dJ1_charAt_3b067_6 rfl (lv_at hl 0 rfl) ?_
  refine lv_iload_n hx hb dJ1_charAt_3b067_7 rfl (lv_at hl 1 rfl) ?_
  refine va_tb (v := .int (f j)) hx hb hT.2.2.2 hS1 (vp_in_nI hj (by omega)) (by rw [nI_clamp (by omega)]) dJ1_charAt_3b067_8 ?_
  refine lv_sipush (v := 255) hx hb dJ1_charAt_3b067_9 (by decide) ?_
  refine lv_iand hx hb dJ1_charAt_3b067_12 ?_
  refine lv_i2c hx hb dJ1_charAt_3b067_13 rfl ?_
  exact W.zret (ty := .char) hx hb hr (pk_nc _) (fun t ht hW => ⟨⟨_, (), rfl, rfl, trivial⟩, hS1.F ht⟩) hS1.2.2 dJ1_charAt_3b067_14
theorem js_isL : Met l yJ0_isLatin1_aae02 (js_ws yJ0_isLatin1_aae02 cJ0_isLatin1_aae02 1 (some .boolean)) (js_rm 0 0) (js_P [.ref a] sz fo a v n f) (js_Qi 1 sz) 0 0 (js_A sz) := by
  refine Met.ofW (cc := cJ0_isLatin1_aae02) (maxL := 1) (ret := some .boolean) (by decide) rfl ?_
  intro p e s m args below meth c s₁ B hml hv
  obtain ⟨rfl, hsz, hC, hT⟩ := hv
  have hx := B.exec
  have hb := B.bytes
  have hr := B.returns
  have hlocks := B.notSynchronized
  have hts : ∀ w ∈ mk_tb, w.before [Value.ref a].toArray s = true := fun w hw => atoms_spec (ws := js_ws yJ0_isLatin1_aae02 cJ0_isLatin1_aae02 1 (some .boolean)) B.pre w (List.mem_cons_of_mem _ hw)
  have hown : s.vm.findClass RJ0 = some m.cls := findClass_of_methodNamed B.named
  subst hsz
  have hS : va_S (js_A s.heap.size) s.heap s.heap [] := va_S.rf
  have hl := lv_entry ([.ref a]) (n := 1) (Nat.le_of_ble_eq_true rfl)
  rw [lg_entry_eq]
  generalize (lg_sl ([.ref a]) ++ List.replicate (1 - (lg_sl ([.ref a])).length) Slot.unset).toArray = ls at hl ⊢
  have hl : lv_has ls 1 [(0, .ref a)] := hl
  refine va_gets (own := RJ0) (ref := RJ0) (C := RJ0) (n := "COMPACT_STRINGS") (d := "Z") hx hb hC.1 hS hown (hts _ (mk_t2 34 rfl rfl)) (fun _ h => h) dJ0_isLatin1_aae02_0 ?_
  refine lv_if_eq hx hb dJ0_isLatin1_aae02_3 (tgt := 17) rfl (fun h => absurd h (by decide)) (fun _ => ?_)
  refine lv_aload_n hx hb dJ0_isLatin1_aae02_6 rfl (lv_at hl 0 rfl) ?_
  refine vk_getf (own := RJ0) (ref := RJ0) hx hb hT.2.1 hS hown (hts _ (mk_t6 213 rfl rfl)) (fun _ h => h) dJ0_isLatin1_aae02_7 ?_
  refine lv_if_ne hx hb dJ0_isLatin1_aae02_10 (tgt := 17) rfl (fun h => absurd rfl h) (fun _ => ?_)
  refine lv_iconst (v := 1) hx hb dJ0_isLatin1_aae02_13 (by decide) ?_
  refine lv_goto hx hb dJ0_isLatin1_aae02_14 (tgt := 18) rfl ?_
  exact W.zret (ty := .boolean) hx hb hr (by decide) (fun t ht hW => ⟨⟨_, (), rfl, rfl, trivial⟩, hS.F ht⟩) hS.2.2 dJ0_isLatin1_aae02_18
/-- charAt(j) of a text of n bytes -/
theorem js_charAt {j : Nat} (hn : n < 2147483648) (hj : j < n) : Met l yJ0_charAt_5068e (js_ws yJ0_charAt_5068e cJ0_charAt_5068e 2 (some .char)) (js_rm 3 90) (js_P [.ref a, .int (nI j)] sz fo a v n f) (js_Qi ((f j &&& 255).toUInt32 % 65536).toInt32 sz) 0 0 (js_A sz) := by
  refine Met.ofW (cc := cJ0_charAt_5068e) (maxL := 2) (ret := some .char) (by decide) rfl ?_
  intro p e s m args below meth c s₁ B hml hv
  obtain ⟨rfl, hsz, hC, hT⟩ := hv
  have hx := B.exec
  have hb := B.bytes
  have hr := B.returns
  have hlocks := B.notSynchronized
  have hts : ∀ w ∈ mk_tb, w.before [Value.ref a, .int (nI j)].toArray s = true := fun w hw => atoms_spec (ws := js_ws yJ0_charAt_5068e cJ0_charAt_5068e 2 (some .char)) B.pre w (List.mem_cons_of_mem _ hw)
  have hown : s.vm.findClass RJ0 = some m.cls := findClass_of_methodNamed B.named
  have hfx : CallFix p m c cJ0_charAt_5068e 2 s [Value.ref a, .int (nI j)].toArray mk_tb RJ0 := ⟨hx, hb, hml, hown, hts⟩
  subst hsz
  have hS : va_S (js_A s.heap.size) s.heap s.heap [] := va_S.rf
  have hA : ∀ q, s.heap.size ≤ q → js_A s.heap.size q := fun _ h => h
  have hl := lv_entry ([.ref a, .int (nI j)]) (n := 2) (Nat.le_of_ble_eq_true rfl)
  rw [lg_entry_eq]
  generalize (lg_sl ([.ref a, .int (nI j)]) ++ List.replicate (2 - (lg_sl ([.ref a, .int (nI j)])).length) Slot.unset).toArray = ls at hl ⊢
  have hl : lv_has ls 2 [(0, .ref a), (1, .int (nI j))] := hl
  refine lv_aload_n hx hb dJ0_charAt_5068e_0 rfl (lv_at hl 0 rfl) ?_
  have hrecv : ∃ cell : Cell, s.heap[a]? = some cell ∧ cell.vm.isStatics = false ∧ s.vm.findClass RJ0 = some cell.cls := by
    obtain ⟨cell, g1, g2, g3, -⟩ := hT.1
    exact ⟨cell, g1, g2, g3⟩
  have run := js_runV (l := l) (e := e) (below := below) (meth := meth) (H := s.heap) (locs := []) (cells := 0) (slots := 0) (R := (headSpec (js_ws yJ0_charAt_5068e cJ0_charAt_5068e 2 (some .char)) (js_rm 3 90)).room) (ls := ls) (As := []) (b := a) (rest := []) hfx (js_isL (fo := fo) (a := a) (v := v) (n := n) (f := f) (sz := s.heap.size)) rfl rfl (mk_t2 40 rfl rfl) (mk_t2 41 rfl rfl) (mk_t2 42 rfl rfl) (mk_t1 9 rfl rfl) (mk_t2 43 rfl rfl) ⟨rfl, by decide, by decide, show (parseMethodDescriptor yJ0_isLatin1_aae02.desc).map (fun d => d.parameters.length) = some 0 from by decide +kernel⟩ ⟨by decide, by decide⟩ hrecv ⟨js_blind, js_pre hC hT hS hA⟩ hl.1 (by decide) dJ0_charAt_5068e_1 ⟨Nat.zero_le _, Nat.zero_le _⟩
  refine va_calli run hS (fun q _ h => h) (fun q h => h) (fun r u t H1 locs1 ht hvm hp _ hz1 hk1 hS1 => ?_)
  rw [show r = 1 from hp]
  refine lv_if_eq hx hb dJ0_charAt_5068e_4 (tgt := 16) rfl (fun h => absurd h (by decide)) (fun _ => ?_)
  refine lv_aload_n hx hb dJ0_charAt_5068e_7 rfl (lv_at hl 0 rfl) ?_
  refine vk_getf (own := RJ0) (ref := RJ0) hx hb hT.2.2.1 hS1 hown (hts _ (mk_t6 212 rfl rfl)) (fun _ h => h) dJ0_charAt_5068e_8 ?_
  refine lv_iload_n hx hb dJ0_charAt_5068e_11 rfl (lv_at hl 1 rfl) ?_
  have run2 := js_runS (l := l) (e := e) (below := below) (meth := meth) (H := H1) (locs := locs1) (cells := 0) (slots := 0) (R := (headSpec (js_ws yJ0_charAt_5068e cJ0_charAt_5068e 2 (some .char)) (js_rm 3 90)).room) (ls := ls) (As := [.ref v, .int (nI j)]) (rest := []) hfx (js_c1 (fo := fo) (a := a) (v := v) (n := n) (f := f) (sz := H1.size) hn hj) rfl rfl (mk_t2 44 rfl rfl) (mk_t2 45 rfl rfl) (mk_t1 10 rfl rfl) (mk_t2 46 rfl rfl) ⟨by decide, by decide, show (parseMethodDescriptor yJ1_charAt_3b067.desc).map (fun d => d.parameters.length) = some 2 from by decide +kernel⟩ ⟨by decide, by decide⟩ ⟨js_blind, js_pre hC hT hS1 hA⟩ hl.1 (by decide) dJ0_charAt_5068e_12 ⟨Nat.zero_le _, Nat.zero_le _⟩
  refine va_calli run2 hS1 (fun q _ h => Nat.le_trans hS1.1 h) (fun q h => Nat.le_trans hS1.1 h) (fun r2 u2 t2 H2 locs2 ht2 hvm2 hp2 _ hz2 hk2 hS2 => ?_)
  rw [show r2 = _ from hp2]
  exact W.zret (ty := .char) hx hb hr (pk_nc _) (fun t ht hW => ⟨⟨_, (), rfl, rfl, trivial⟩, hS2.F ht⟩) hS2.2.2 dJ0_charAt_5068e_15
end JSC
