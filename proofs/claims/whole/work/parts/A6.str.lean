/-! length(); the world outside (the text of the words), and its two steps -/
section JSL
variable {l : Launch} {fo : Option Nat} {a v n : Nat} {f : Nat → Int32} {sz : Nat}
theorem js_coder : Met l yJ0_coder_7d493 (js_ws yJ0_coder_7d493 cJ0_coder_7d493 1 (some .byte)) (js_rm 0 0) (js_P [.ref a] sz fo a v n f) (js_Qi 0 sz) 0 0 (js_A sz) := by
  refine Met.ofW (cc := cJ0_coder_7d493) (maxL := 1) (ret := some .byte) (by decide) rfl ?_
  intro p e s m args below meth c s₁ B hml hv
  obtain ⟨rfl, hsz, hC, hT⟩ := hv
  have hx := B.exec
  have hb := B.bytes
  have hr := B.returns
  have hlocks := B.notSynchronized
  have hts : ∀ w ∈ mk_tb, w.before [Value.ref a].toArray s = true := fun w hw => atoms_spec (ws := js_ws yJ0_coder_7d493 cJ0_coder_7d493 1 (some .byte)) B.pre w (List.mem_cons_of_mem _ hw)
  have hown : s.vm.findClass RJ0 = some m.cls := findClass_of_methodNamed B.named
  subst hsz
  have hS : va_S (js_A s.heap.size) s.heap s.heap [] := va_S.rf
  have hl := lv_entry ([.ref a]) (n := 1) (Nat.le_of_ble_eq_true rfl)
  rw [lg_entry_eq]
  generalize (lg_sl ([.ref a]) ++ List.replicate (1 - (lg_sl ([.ref a])).length) Slot.unset).toArray = ls at hl ⊢
  have hl : lv_has ls 1 [(0, .ref a)] := hl
  refine va_gets (own := RJ0) (ref := RJ0) (C := RJ0) (n := "COMPACT_STRINGS") (d := "Z") hx hb hC.1 hS hown (hts _ (mk_t2 34 rfl rfl)) (fun _ h => h) dJ0_coder_7d493_0 ?_
  refine lv_if_eq hx hb dJ0_coder_7d493_3 (tgt := 13) rfl (fun h => absurd h (by decide)) (fun _ => ?_)
  refine lv_aload_n hx hb dJ0_coder_7d493_6 rfl (lv_at hl 0 rfl) ?_
  refine vk_getf (own := RJ0) (ref := RJ0) hx hb hT.2.1 hS hown (hts _ (mk_t6 213 rfl rfl)) (fun _ h => h) dJ0_coder_7d493_7 ?_
  refine lv_goto hx hb dJ0_coder_7d493_10 (tgt := 14) rfl ?_
  exact W.zret (ty := .byte) hx hb hr (by decide) (fun t ht hW => ⟨⟨_, (), rfl, rfl, trivial⟩, hS.F ht⟩) hS.2.2 dJ0_coder_7d493_14
theorem js_length (hn : n < 2147483648) : Met l yJ0_length_8abf5 (js_ws yJ0_length_8abf5 cJ0_length_8abf5 1 (some .int)) (js_rm 1 30) (js_P [.ref a] sz fo a v n f) (js_Qi (nI n) sz) 0 0 (js_A sz) := by
  refine Met.ofW (cc := cJ0_length_8abf5) (maxL := 1) (ret := some .int) (by decide) rfl ?_
  intro p e s m args below meth c s₁ B hml hv
  obtain ⟨rfl, hsz, hC, hT⟩ := hv
  have hx := B.exec
  have hb := B.bytes
  have hr := B.returns
  have hlocks := B.notSynchronized
  have hts : ∀ w ∈ mk_tb, w.before [Value.ref a].toArray s = true := fun w hw => atoms_spec (ws := js_ws yJ0_length_8abf5 cJ0_length_8abf5 1 (some .int)) B.pre w (List.mem_cons_of_mem _ hw)
  have hown : s.vm.findClass RJ0 = some m.cls := findClass_of_methodNamed B.named
  have hfx : CallFix p m c cJ0_length_8abf5 1 s [Value.ref a].toArray mk_tb RJ0 := ⟨hx, hb, hml, hown, hts⟩
  subst hsz
  have hS : va_S (js_A s.heap.size) s.heap s.heap [] := va_S.rf
  have hA : ∀ q, s.heap.size ≤ q → js_A s.heap.size q := fun _ h => h
  have hl := lv_entry ([.ref a]) (n := 1) (Nat.le_of_ble_eq_true rfl)
  rw [lg_entry_eq]
  generalize (lg_sl ([.ref a]) ++ List.replicate (1 - (lg_sl ([.ref a])).length) Slot.unset).toArray = ls at hl ⊢
  have hl : lv_has ls 1 [(0, .ref a)] := hl
  refine lv_aload_n hx hb dJ0_length_8abf5_0 rfl (lv_at hl 0 rfl) ?_
  refine vk_getf (own := RJ0) (ref := RJ0) hx hb hT.2.2.1 hS hown (hts _ (mk_t6 212 rfl rfl)) (fun _ h => h) dJ0_length_8abf5_1 ?_
  refine va_tlen hx hb hT.2.2.2 hS rfl dJ0_length_8abf5_4 ?_
  refine lv_aload_n hx hb dJ0_length_8abf5_5 rfl (lv_at hl 0 rfl) ?_
  have hrecv : ∃ cell : Cell, s.heap[a]? = some cell ∧ cell.vm.isStatics = false ∧ s.vm.findClass RJ0 = some cell.cls := by
    obtain ⟨cell, g1, g2, g3, -⟩ := hT.1
    exact ⟨cell, g1, g2, g3⟩
  have run := js_runV (l := l) (e := e) (below := below) (meth := meth) (H := s.heap) (locs := []) (cells := 0) (slots := 0) (R := (headSpec (js_ws yJ0_length_8abf5 cJ0_length_8abf5 1 (some .int)) (js_rm 1 30)).room) (ls := ls) (As := []) (b := a) (rest := [.int (nI n)]) hfx (js_coder (fo := fo) (a := a) (v := v) (n := n) (f := f) (sz := s.heap.size)) rfl rfl (mk_t2 30 rfl rfl) (mk_t2 31 rfl rfl) (mk_t2 32 rfl rfl) (mk_t1 9 rfl rfl) (mk_t2 33 rfl rfl) ⟨rfl, by decide, by decide, show (parseMethodDescriptor yJ0_coder_7d493.desc).map (fun d => d.parameters.length) = some 0 from by decide +kernel⟩ ⟨by decide, by decide⟩ hrecv ⟨js_blind, js_pre hC hT hS hA⟩ hl.1 (show (1 : Nat) ≤ 8 from by decide) dJ0_length_8abf5_6 ⟨Nat.zero_le _, Nat.zero_le _⟩
  refine va_calli run hS (fun q _ h => h) (fun q h => h) (fun r u t H1 locs1 ht hvm hp _ hz1 hk1 hS1 => ?_)
  rw [show r = 0 from hp]
  refine lv_ishr hx hb dJ0_length_8abf5_9 ?_
  exact W.iret (v := nI n >>> ((0 : Int32) &&& 31)) hx hb hr (fun t ht hW => ⟨⟨_, (), rfl, sc_shr0 (by omega), trivial⟩, hS1.F ht⟩) hS1.2.2 dJ0_length_8abf5_10
end JSL
def js_tx : String := "takes waits minds or    and   not   base  more  slow  wait  said  letter"
def js_t0 : List Int := (mj_nth mk_TB 0).getD []
theorem js_t0n : mj_nth mk_TB 0 = some js_t0 ∧ js_t0.length = 72 := ⟨by decide +kernel, by decide +kernel⟩
def js_wf (j : Nat) : Int32 := Int32.ofInt ((mj_nth js_t0 j).getD 0)
/-- the world outside, as every call finds it -/
def js_XS (fo : Option Nat) (aw v : Nat) (A : Nat → Prop) (U : State) : Prop := js_Cs fo A U ∧ vk_R "NumbersCalled$Tape" 96 js_tx aw U ∧ js_St aw v 72 js_wf A U
theorem js_XSc (fo : Option Nat) (aw v : Nat) : mk_XSc (js_XS fo aw v) := fun _ _ _ _ hW hq hAB h => ⟨h.1.mv hW hq hAB, vk_R.warm hW h.2.1, h.2.2.mv hW hq hAB⟩
theorem js_b128 : ∀ k : Nat, k < 128 → ((Int32.ofInt (k : Int) &&& 255).toUInt32 % 65536).toInt32 = Int32.ofInt (k : Int) := by decide +kernel
theorem js_t0b : ∀ x ∈ js_t0, 0 ≤ x ∧ x < 128 := by decide +kernel
theorem js_wfx {j : Nat} {x : Int} (h : mj_nth js_t0 j = some x) : ((js_wf j &&& 255).toUInt32 % 65536).toInt32 = Int32.ofInt x ∧ mj_n32 x ∧ j < 72 := by
  have h1 := js_t0b x (by rw [mj_nth_eq] at h; exact List.mem_of_getElem? h)
  have h2 : js_wf j = Int32.ofInt x := by unfold js_wf; rw [h]; rfl
  have h3 := mj_nth_lt _ _ _ h
  rw [js_t0n.2] at h3
  rw [h2]
  obtain ⟨k, rfl⟩ := Int.eq_ofNat_of_zero_le h1.1
  refine ⟨js_b128 k (by omega), ?_, h3⟩
  unfold mj_n32
  omega
theorem js_Str {lo hi : Nat} {cA : Nat → ClassId} {ad : mk_AD} {D : va_G} {tys : List (ClassId × FieldType)} {fo : Option Nat} {v : Nat} : mk_Str (js_XS fo (ad 63 0) v) lo hi cA ad D tys := by
  intro p l e R s m args below meth c Q A bytes n ret d pc ls st μ hAA C
  have hXs : js_XS fo (ad 63 0) v A s := C.2.2.2.2.2.2.2.2.2.1.2.2.2
  refine ⟨fun hd k => ms_ldcW C hXs.2.1 hd k, fun j x t ht hj hx hc hd k => ?_⟩
  have hx : mj_nth js_t0 j.toNat = some x := by
    have := js_t0n.1.symm.trans ht
    cases this
    exact hx
  obtain ⟨e1, e2, e3⟩ := js_wfx hx
  have ej : Int32.ofInt j = nI j.toNat := by
    obtain ⟨k, rfl⟩ := Int.eq_ofNat_of_zero_le hj
    exact mj_I_N k
  intro H locs Ls hR
  obtain ⟨g1, g2, g3, g4, g5, g6, g7⟩ := hR
  have hA : ∀ q, s.heap.size ≤ q → A q := C.2.2.2.2.2.2.2.2.2.2.1
  obtain ⟨r1, r2⟩ := C.2.2.2.2.2.2.2.2.2.2.2.2.2
  have hfx : CallFix p m c bytes n s args mk_tb (mk_cn 5) := ⟨C.1, C.2.1, C.2.2.2.1, C.2.2.2.2.1, C.2.2.2.2.2.1⟩
  have hrecv : ∃ cell : Cell, H[ad 63 0]? = some cell ∧ cell.vm.isStatics = false ∧ s.vm.findClass RJ0 = some cell.cls := by
    obtain ⟨cell, q1, q2, q3, -⟩ := hXs.2.2.1.kept g7.2.1
    exact ⟨cell, q1, q2, q3⟩
  have hst : (Sum.inl j :: Sum.inr (Sum.inr (63, 0)) :: st).map (mk_ev ad) = [Value.int (nI j.toNat)].reverse ++ .ref (ad 63 0) :: st.map (mk_ev ad) := by
    show Value.int (Int32.ofInt j) :: _ = Value.int (nI j.toNat) :: _
    rw [ej]
    rfl
  rw [hst]
  have run := js_runV (l := l) (e := e) (below := below) (meth := meth) (H := H) (locs := locs) (cells := 0) (slots := 0) (R := R) (ls := Ls) (As := [.int (nI j.toNat)]) (b := ad 63 0) (rest := st.map (mk_ev ad)) hfx (js_charAt (fo := fo) (a := ad 63 0) (v := v) (n := 72) (f := js_wf) (sz := H.size) (by decide) e3) rfl rfl (mk_t2 106 rfl rfl) (mk_t2 37 rfl rfl) (mk_t2 38 rfl rfl) (mk_t1 9 rfl rfl) (mk_t2 39 rfl rfl) ⟨rfl, by decide, by decide, show (parseMethodDescriptor yJ0_charAt_5068e.desc).map (fun d => d.parameters.length) = some 1 from by decide +kernel⟩ ⟨by show 3 + 1 ≤ _; omega, by show 8 + (2 + 11) + 90 ≤ _; omega⟩ hrecv ⟨js_blind, js_pre hXs.1 hXs.2.2 g7 hA⟩ g1.1.1 (by rw [mk_cats]; exact hc) hd ⟨Nat.zero_le _, Nat.zero_le _⟩
  refine va_calli run g7 (fun q _ h => hA q (Nat.le_trans g7.1 h)) (fun q h => hA q (Nat.le_trans g7.1 h)) (fun r u t1 H1 locs1 ht1 hvm hp _ hz1 hk1 hS1 => ?_)
  rw [show r = _ from hp, e1]
  refine k H1 locs1 Ls ⟨g1, g2, fun w hw => ?_, g4, g5.kept (fun i y hy => hk1 y.1 ((g5 i y hy).lt) (fun hq => Nat.lt_irrefl _ (Nat.lt_of_lt_of_le ((g5 i y hy).lt) hq))), g6, hS1⟩
  rcases List.mem_cons.mp hw with q | q
  · rw [q]; exact e2
  · exact g3 w (List.mem_cons_of_mem _ (List.mem_cons_of_mem _ q))
