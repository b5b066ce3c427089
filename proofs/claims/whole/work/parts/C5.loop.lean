/-! the law's loop; its start -/
theorem js_runI {p : Program} {l : Launch} {e : Env} {R : Room} {s : State} {m : MethodId} {args : Array Value} {below : List Frame} {meth : Method} {c : Code} {H : Heap} {locs : List Loc} {cells slots : Nat} {own : String} {cc : ByteArray} {nL pc index : Nat} {ls : Array Slot} (S : CallFix p m c cc nL s args mk_tb own) {y : MethodName} {bytes : ByteArray} {maxL : Nat} {rm : Room} {Pc : Array Value → State → Prop} {Qc : Array Value → State → Outcome → State → Prop} {free : Addr → Prop} {mc ms b : Nat} {rest : List Value} (hM : Met l y (js_ws y bytes maxL none) rm Pc Qc mc ms free) (hrc : rm.cells = mc) (hrs : rm.slots = ms)
    (h1 : Cond.methodLink own index y ∈ mk_tb) (h2 : Cond.instanceMethod y ∈ mk_tb) (h3 : Cond.initialized y.cls ∈ mk_tb) (h4 : Cond.code y bytes maxL none ∈ mk_tb) (hyn : y.name = "<init>") (hd : y.cls ≠ "java/lang/invoke/MethodHandle" ∧ y.cls ≠ "java/lang/invoke/VarHandle" ∧ (parseMethodDescriptor y.desc).map (fun d => d.parameters.length) = some 0) (hR : rm.frames + 1 ≤ R.frames ∧ 8 + (maxL + 11) + rm.locals ≤ R.locals)
    (hp : FrameBlind Pc ∧ ∀ U : State, U.heap = H → s.WarmedH U.vm → Pc #[Value.ref b] U) (hs : ls.size = nL) (hcat : (rest.map fun v => v.category).sum ≤ 8) (hdg : decode cc pc = .ok (.invokespecial index, 3)) (hf : cells + mc ≤ R.cells ∧ slots + ms ≤ R.slots) :
    va_Run p l e R s m args below meth c H locs cells slots mc ms (F0 m pc ls (.ref b :: rest)) rest (Qc #[Value.ref b]) free := by
  refine va_runI (bytes := bytes) (maxL := maxL) (As := []) (b := b) (n := 0) S hM ?_ hp rfl rfl hs rfl (lv_room hcat) hdg hf
  exact cwI (ws' := mk_tb) 0 S.2.2.2.2 (mk_gin (fun w hw => by
    rcases List.mem_cons.mp hw with rfl | hw
    · exact h4
    · exact hw)) rfl hrc hrs (S.2.2.2.2 _ h3) (S.2.2.2.2 _ h1) (S.2.2.2.2 _ h2) hyn hd hR
theorem kzB_blind {D : va_G} {tys : List (ClassId × FieldType)} {ci : Nat} {z : List kzU} {q sz : Nat} {Ex : (Nat → Prop) → State → Prop} (hEx : mk_XSc Ex) : FrameBlind (kzPreB D tys ci z q sz Ex) := by
  intro a' U g mk h
  obtain ⟨q0, q1, q2, q3, q4, q5, q6⟩ := h
  exact ⟨q0, q1, q2, q3, va_K.moved (u := U) (U := U.calling g mk a') (Vm.Alike.refl U.vm) q4, kzEnv.mv (u := U) (U := U.calling g mk a') (State.WarmedH.refl U) q5, hEx _ _ U (U.calling g mk a') (State.WarmedH.refl U) (fun _ _ _ => rfl) (fun _ h => h) q6⟩
theorem kzExC_mv (fo : Option Nat) (aw v a7 v7 at_ : Nat) : mk_XSc (kzExC fo aw v a7 v7 at_) := fun _ _ _ _ hW hq hAB h => ⟨mk_Ext_mv (js_XSc fo aw v) hW hq hAB h.1, vk_R.warm hW h.2.1, h.2.2.mv hW hq hAB⟩
theorem kzExR_mv (fo : Option Nat) (aw v at_ : Nat) : mk_XSc (fun A U => mk_Ext (js_XS fo aw v) (fun _ _ => at_) A U) := fun _ _ _ _ hW hq hAB h => mk_Ext_mv (js_XSc fo aw v) hW hq hAB h
/-- the start of a big constructor, out of the law -/
theorem lw_preB {s : State} {H : Heap} {locs : List Loc} {D : va_G} {tys : List (ClassId × FieldType)} {ci q : Nat} {z : List kzU} {X : va_W} {Ex : (Nat → Prop) → State → Prop} (hEx : mk_XSc Ex) (hz0 : z.all (kzc 0) = true) (hP : va_P D vwCl (X ++ [(q, .inr (ci, z.map (kzV (fun _ => 0))))]) H) (hD : va_D (lwAd s) (X ++ [(q, .inr (ci, z.map (kzV (fun _ => 0))))])) (hS : va_S (lwAd s) s.heap H locs) (hK : va_K D vwCl tys s) (hE : kzEnv s) (hX : Ex (lwAd s) s) :
    (∀ x, kzA q H.size x → lwAd s x) ∧ (FrameBlind (kzPreB D tys ci z q H.size Ex) ∧ ∀ U : State, U.heap = H → s.WarmedH U.vm → kzPreB D tys ci z q H.size Ex #[Value.ref q] U) := by
  have hlast : (X ++ [(q, (Sum.inr (ci, z.map (kzV (fun _ => 0))) : va_E))])[X.length]? = some (q, .inr (ci, z.map (kzV (fun _ => 0)))) := by
    rw [List.getElem?_append_right (Nat.le_refl _), Nat.sub_self]; rfl
  have hq : q < H.size := (hP _ _ hlast).lt
  have hAq : lwAd s q := hD.2 _ _ hlast
  have hAA : ∀ x, kzA q H.size x → lwAd s x := by
    rintro x (h | h)
    · rw [h]; exact hAq
    · exact Nat.le_trans hS.1 h
  have ez : z.map (kzV (fun _ => q)) = z.map (kzV (fun _ => 0)) := kzV_map (fun k hk => absurd hk (Nat.not_lt_zero k)) hz0
  have hPq : va_P D vwCl [(q, .inr (ci, z.map (kzV (fun _ => q))))] H := by
    intro i y hy
    rw [ez] at hy
    cases i with
    | zero => cases hy; exact hP _ _ hlast
    | succ i => cases hy
  refine ⟨hAA, kzB_blind hEx, fun U hU hW => ⟨rfl, by rw [hU], hq, by rw [hU]; exact hPq, va_K.moved hW.alike hK, hE.mv hW, hEx _ _ s U hW (fun x hx hn => by rw [hU]; exact hS.2.1 x hx hn) hAA hX⟩⟩
theorem lw_sub7 {L i : Nat} (hL : L ≤ 3584) (hi : i ≤ 4000) : (Int32.ofNat L - Int32.ofInt 7 < nI i) ↔ L < i + 7 := by
  have e1 : Int32.ofNat L = Int32.ofInt (L : Int) := (mj_I_N L).symm
  rw [e1, ← Int32.ofInt_sub, ← mj_I_N i, mj_I_lt (by unfold mj_n32; omega) (by unfold mj_n32; omega)]
  omega
theorem lwPs_at : (List.range 44).all (fun k => decide ((#[191, 224, 267, 300, 333, 356, 431, 444, 467, 510, 543, 556, 589, 652, 685, 708, 731, 744, 777, 810, 843, 866, 889, 912, 935, 958, 991, 1004, 1027, 1070, 1114, 1157, 1180, 1203, 1226, 1249, 1282, 1336, 1349, 1362, 1405, 1448, 1511, 1564] : Array Int)[k]? = some ((lwPs.getD k 0 : Nat) - 33 : Int))) = true := by decide +kernel
section LL
variable {p : Program} {l : Launch} {e : Env} {s : State} {m : MethodId} {below : List Frame} {meth : Method} {c : Code}
variable {b L : Nat} {xs : Nat → Int32} {fo : Option Nat} {aw v at_ : Nat} {τ : Nat → ClassId} {D : va_G} {tys : List (ClassId × FieldType)}
theorem lw_loop (C : lwC p s m #[Value.ref b] c b L xs fo aw v at_ τ D tys) (hr : meth.sig.returnType = ret) (hlk : meth.locks = false) {qc qr : Nat} {νC νR : Nat → Nat} (hC : νC (offC 0 0) = qc) (hR : νR (offR 33 0) = qr) : ∀ (n i : Nat), L < i + 7 + n → i ≤ 4000 → ∀ (μ ρ : mj_M) (H : Heap) (locs : List Loc) (ls : Array Slot), lv_has ls 4 [(3, .int (nI i)), (2, .ref qr), (1, .ref qc), (0, .ref b)] → Inv μ ρ → mk_vm μ → mk_vm ρ →
    va_P D vwCl (mk_ws 0 33 (fun s => τ (kzkA s)) (kzad νC offC aw at_) μ ++ mk_ws 33 63 (fun s => τ (kzkA s)) (kzad νR offR aw at_) ρ) H → va_D (lwAd s) (mk_ws 0 33 (fun s => τ (kzkA s)) (kzad νC offC aw at_) μ ++ mk_ws 33 63 (fun s => τ (kzkA s)) (kzad νR offR aw at_) ρ) → va_S (lwAd s) s.heap H locs →
    W p l e room_1 s m #[Value.ref b] below meth c H locs 119 4586 (lw_Z below #[Value.ref b] s) (F0 m 18 ls []) := by
  have C' := C
  obtain ⟨hfx, hX, hbl, hL, hK, hT, hE⟩ := C'
  have hx := hfx.1
  have hb := hfx.2.1
  have hbA : ¬ lwAd s b := Nat.not_le.mpr hbl
  have hf : 119 ≤ room_1.cells ∧ 4586 ≤ room_1.slots := ⟨by decide, by decide⟩
  intro n
  induction n with
  | zero =>
    intro i hi hi2 μ ρ H locs ls hl hI hm1 hm2 hP hD hS
    refine lv_iload_n hx hb (by decide +kernel : decode code 18 = .ok (.iload_n 3, 1)) rfl (lv_at hl 0 rfl) ?_
    refine lv_aload_n hx hb (by decide +kernel : decode code (18 + 1) = .ok (.aload_n 0, 1)) rfl (lv_at hl 3 rfl) ?_
    refine va_slen hx hb hX hbl hbA hS (by decide +kernel : decode code (18 + 1 + 1) = .ok (.arraylength, 1)) ?_
    refine lv_bipush (v := Int32.ofInt 7) hx hb (by decide +kernel : decode code (18 + 1 + 1 + 1) = .ok (.bipush 7, 2)) (by decide) ?_
    refine lv_isub hx hb (by decide +kernel : decode code (18 + 1 + 1 + 1 + 2) = .ok (.isub, 1)) ?_
    refine lv_icmp_gt hx hb (off := 1612) (tgt := 1636) (by decide +kernel : decode code (18 + 1 + 1 + 1 + 2 + 1) = .ok (.if_icmp .gt 1612, 3)) rfl (fun _ => ?_) (fun g => absurd ((lw_sub7 hL hi2).mpr (by omega)) g)
    refine va_forget (fun q hq => hS.2.2 q hq) (W.widen (Nat.le_of_ble_eq_true rfl : 119 ≤ 600000) (Nat.le_of_ble_eq_true rfl : 4586 ≤ 7302249) ?_)
    refine lv_iconst (v := 1) hx hb (by decide +kernel : decode code 1636 = .ok (.iconst 1, 1)) (by decide) ?_
    exact lw_ret hx hb hr hlk (by decide +kernel)
  | succ n ih =>
    intro i hi hi2 μ ρ H locs ls hl hI hm1 hm2 hP hD hS
    have next : i + 7 ≤ L → ∀ (μ' ρ' : mj_M) (H1 : Heap) (locs1 : List Loc), Inv μ' ρ' → mk_vm μ' → mk_vm ρ' → va_P D vwCl (mk_ws 0 33 (fun s => τ (kzkA s)) (kzad νC offC aw at_) μ' ++ mk_ws 33 63 (fun s => τ (kzkA s)) (kzad νR offR aw at_) ρ') H1 → va_D (lwAd s) (mk_ws 0 33 (fun s => τ (kzkA s)) (kzad νC offC aw at_) μ' ++ mk_ws 33 63 (fun s => τ (kzkA s)) (kzad νR offR aw at_) ρ') → va_S (lwAd s) s.heap H1 locs1 → W p l e room_1 s m #[Value.ref b] below meth c H1 locs1 119 4586 (lw_Z below #[Value.ref b] s) (F0 m 1630 ls []) := by
      intro hle μ' ρ' H1 locs1 hI' hm1' hm2' hP' hD' hS'
      refine lv_iinc (k := 0) (v := nI (i + 7)) (lv' := [(3, .int (nI (i + 7))), (2, .ref qr), (1, .ref qc), (0, .ref b)]) hx hb (by decide +kernel : decode code 1630 = .ok (.iinc 3 7, 3)) hl rfl (by exact (Int32.ofNat_add i 7).symm) (by decide) rfl (fun ls' L' => ?_)
      refine lv_goto hx hb (off := -1615) (tgt := 18) (by decide +kernel : decode code (1630 + 3) = .ok (.goto (-1615), 3)) rfl ?_
      exact ih (i + 7) (by omega) (by omega) μ' ρ' H1 locs1 ls' L' hI' hm1' hm2' hP' hD' hS'
    refine lv_iload_n hx hb (by decide +kernel : decode code 18 = .ok (.iload_n 3, 1)) rfl (lv_at hl 0 rfl) ?_
    refine lv_aload_n hx hb (by decide +kernel : decode code (18 + 1) = .ok (.aload_n 0, 1)) rfl (lv_at hl 3 rfl) ?_
    refine va_slen hx hb hX hbl hbA hS (by decide +kernel : decode code (18 + 1 + 1) = .ok (.arraylength, 1)) ?_
    refine lv_bipush (v := Int32.ofInt 7) hx hb (by decide +kernel : decode code (18 + 1 + 1 + 1) = .ok (.bipush 7, 2)) (by decide) ?_
    refine lv_isub hx hb (by decide +kernel : decode code (18 + 1 + 1 + 1 + 2) = .ok (.isub, 1)) ?_
    refine lv_icmp_gt hx hb (off := 1612) (tgt := 1636) (by decide +kernel : decode code (18 + 1 + 1 + 1 + 2 + 1) = .ok (.if_icmp .gt 1612, 3)) rfl (fun _ => ?_) (fun g => ?_)
    · refine va_forget (fun q hq => hS.2.2 q hq) (W.widen (Nat.le_of_ble_eq_true rfl : 119 ≤ 600000) (Nat.le_of_ble_eq_true rfl : 4586 ≤ 7302249) ?_)
      refine lv_iconst (v := 1) hx hb (by decide +kernel : decode code 1636 = .ok (.iconst 1, 1)) (by decide) ?_
      exact lw_ret hx hb hr hlk (by decide +kernel)
    have hle : i + 7 ≤ L := Nat.not_lt.mp fun h => g ((lw_sub7 hL hi2).mpr h)
    refine lv_aload_n hx hb (by decide +kernel : decode code (18 + 1 + 1 + 1 + 2 + 1 + 3) = .ok (.aload_n 0, 1)) rfl (lv_at hl 3 rfl) ?_
    refine lv_iload_n hx hb (by decide +kernel : decode code (18 + 1 + 1 + 1 + 2 + 1 + 3 + 1) = .ok (.iload_n 3, 1)) rfl (lv_at hl 0 rfl) ?_
    refine va_sld hx hb hX hbl hbA hS (vp_in_nI (by omega) (by omega)) (by decide +kernel : decode code (18 + 1 + 1 + 1 + 2 + 1 + 3 + 1 + 1) = .ok (.iaload, 1)) ?_
    rw [nI_clamp (by omega)]
    refine lv_bipush (v := 63) hx hb (by decide +kernel : decode code (18 + 1 + 1 + 1 + 2 + 1 + 3 + 1 + 1 + 1) = .ok (.bipush 63, 2)) (by decide) ?_
    refine lv_iand hx hb (by decide +kernel : decode code (18 + 1 + 1 + 1 + 2 + 1 + 3 + 1 + 1 + 1 + 2) = .ok (.iand, 1)) ?_
    obtain ⟨k, hk, ek⟩ := pk_andE (xs i) (m := 63) 6 (by decide)
    rw [ek]
    have etk : (nI k).toInt = (k : Int) := nI_toInt (by omega)
    have dts : decode code (18 + 1 + 1 + 1 + 2 + 1 + 3 + 1 + 1 + 1 + 2 + 1) = .ok (.tableswitch 1597 0 43 #[191, 224, 267, 300, 333, 356, 431, 444, 467, 510, 543, 556, 589, 652, 685, 708, 731, 744, 777, 810, 843, 866, 889, 912, 935, 958, 991, 1004, 1027, 1070, 1114, 1157, 1180, 1203, 1226, 1249, 1282, 1336, 1349, 1362, 1405, 1448, 1511, 1564], 191) := by decide +kernel
    by_cases hk44 : k < 44
    · have ho := of_decide_eq_true (List.all_eq_true.mp lwPs_at k (List.mem_range.mpr hk44))
      obtain ⟨a1, b1, p1, p2, off, hck⟩ := lwKs k hk44
      refine lv_tableIn hx hb (tgt := lwPs.getD k 0) dts (by rw [etk]; omega) (by rw [etk]; omega) (off := (lwPs.getD k 0 : Nat) - 33) (by
        rw [etk, show ((k : Int) - 0).toNat = k by omega]
        exact ho) (by
          show (33 : Int) + _ = _
          omega) ?_
      exact lw_case C hk44 hck hI hm1 hm2 hC hR hl hle hP hD hS hf (next hle)
    · exact lv_tableOut hx hb (tgt := 1630) dts (Or.inr (by rw [etk]; omega)) rfl (next hle μ ρ H locs hI hm1 hm2 hP hD hS)
end LL
