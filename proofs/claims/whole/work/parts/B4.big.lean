/-! the two big constructors: their starts and ends -/
def kzPreB (D : va_G) (tys : List (ClassId × FieldType)) (ci : Nat) (z : List kzU) (q sz : Nat) (Ex : (Nat → Prop) → State → Prop) : Array Value → State → Prop := va_Pc [.ref q] (fun U => U.heap.size = sz ∧ q < sz ∧ va_P D vwCl [(q, .inr (ci, z.map (kzV (fun _ => q))))] U.heap ∧ va_K D vwCl tys U ∧ kzEnv U ∧ Ex (kzA q sz) U)
def kzPostB (τ : Nat → ClassId) (D : va_G) (q sz lo hi : Nat) (off : Nat → Nat → Nat) (aw at_ : Nat) (μ : mj_M) : Array Value → State → Outcome → State → Prop := va_Qv (fun ν : Nat → Nat => ν (off lo 0) = q) (fun ν t => mk_vm μ ∧ va_P D vwCl (mk_ws lo hi (fun s => τ (kzkA s)) (kzad ν off aw at_) μ) t.heap ∧ va_D (kzA q sz) (mk_ws lo hi (fun s => τ (kzkA s)) (kzad ν off aw at_) μ)) (kzA q sz)
theorem kz_kAs : ∀ t, t < 63 → ((mj_srt mk_LY t).1 = 1 → kzkA t = 0) ∧ ((mj_srt mk_LY t).1 = 2 → kzkA t = 1) ∧ ((mj_srt mk_LY t).1 = 3 → kzkA t = 2 ∨ kzkA t = 3 ∨ kzkA t = 4) := by decide +kernel
theorem kz_TY {τ : Nat → ClassId} {tys : List (ClassId × FieldType)} {lo hi : Nat} (hT : kzT τ tys) (h : hi ≤ 63) : mk_TY lo hi (fun s => τ (kzkA s)) tys := by
  intro t _ h2
  obtain ⟨k1, k2, k3⟩ := kz_kAs t (Nat.lt_of_lt_of_le h2 h)
  refine ⟨fun g => ⟨0, ?_⟩, fun g => ⟨1, ?_⟩, fun g => ?_⟩
  · show tys[0]? = some (τ (kzkA t), .int)
    rw [k1 g]; exact hT.1
  · show tys[1]? = some (τ (kzkA t), .long)
    rw [k2 g]; exact hT.2.1
  · rcases k3 g with e | e | e
    · exact ⟨2, RX0, by show tys[2]? = some (τ (kzkA t), _); rw [e]; exact hT.2.2.1⟩
    · exact ⟨3, RX6, by show tys[3]? = some (τ (kzkA t), _); rw [e]; exact hT.2.2.2.1⟩
    · exact ⟨4, RX4, by show tys[4]? = some (τ (kzkA t), _); rw [e]; exact hT.2.2.2.2⟩
section KB
variable {l : Launch} {τ : Nat → ClassId} {D : va_G} {tys : List (ClassId × FieldType)}
theorem kz_metB {y : MethodName} {own ci mc ms n : Nat} {bytes : ByteArray} {z : List kzU} {rm : Room} {Ex : (Nat → Prop) → State → Prop} {Post : Nat → Nat → Array Value → State → Outcome → State → Prop} (hy : plainName y.cls = true) (hcn : y.cls = mk_cn own) (hyn : y.name = "<init>") (hn : 1 ≤ n) (hT : kzT τ tys)
    (walk : ∀ (p : Program) (e : Env) (s : State) (m : MethodId) (args : Array Value) (below : List Frame) (meth : Method) (c : Code) (ls : Array Slot) (q : Nat), kzX p s m args meth c τ D tys (kzA q s.heap.size) own bytes n → kzL ls n q → meth.sig.returnType = none → meth.locks = false → Ex (kzA q s.heap.size) s → kzG p l e rm s m args below meth c (MQ below (Post q s.heap.size) args s mc ms (kzA q s.heap.size)) τ D (kzA q s.heap.size) ls q 0 0 [(0, ci, z)] 0 []) :
    ∀ q sz : Nat, Met l y (js_ws y bytes n none) rm (kzPreB D tys ci z q sz Ex) (Post q sz) mc ms (kzA q sz) := by
  intro q sz
  refine Met.ofW (cc := bytes) (maxL := n) (ret := none) hy rfl ?_
  intro p e s m args below meth c s₁ B hml hv
  obtain ⟨rfl, hsz, hq, hP, hK, hE, hEx⟩ := hv
  subst hsz
  have hts : ∀ w ∈ mk_tb, w.before [Value.ref q].toArray s = true := fun w hw => atoms_spec (ws := js_ws y bytes n none) B.pre w (List.mem_cons_of_mem _ hw)
  have hown : s.vm.findClass y.cls = some m.cls := findClass_of_methodNamed B.named
  have hin : meth.name = y.name := (name_of_methodNamed B.named B.method).1
  have hl := lv_entry ([.ref q]) (n := n) hn
  rw [lg_entry_eq]
  have hX : kzX p s m [Value.ref q].toArray meth c τ D tys (kzA q s.heap.size) own bytes n := ⟨B.exec, B.bytes, hml, by rw [← hcn]; exact hown, hts, hin.trans hyn, hK, hT, fun _ h => Or.inr h, hE⟩
  have e1 : kzW τ (fun _ => q) [(0, ci, z)] = [(q, .inr (ci, z.map (kzV (fun _ => q))))] := rfl
  refine walk p e s m _ below meth c _ q hX hl B.returns B.notSynchronized hEx (fun _ => q) s.heap [] rfl (by rw [e1]; exact hP) ⟨fun i j a b hi hj _ => ?_, fun i a hi => ?_⟩ va_S.rf
  · rw [e1] at hi hj
    match i, j, hi, hj with
    | 0, 0, _, _ => rfl
    | 0, j + 1, _, hj => cases hj
    | i + 1, _, hi, _ => cases hi
  · rw [e1] at hi
    match i, hi with
    | 0, hi => cases hi; exact Or.inl rfl
    | i + 1, hi => cases hi
variable {p : Program} {e : Env} {R : Room} {s : State} {m : MethodId} {args : Array Value} {below : List Frame} {meth : Method} {c : Code} {Q : State → Prop} {A : Nat → Prop} {own : Nat} {bytes : ByteArray} {n : Nat}
variable {ls : Array Slot} {self cells slots pc : Nat} {cs : List kzC} {sv : List kzU}
/-- the start of a call of ours, out of a constructor's world -/
theorem kz_pre {lo hi aw at_ v : Nat} {fo : Option Nat} {ad : mk_AD} {cA : Nat → ClassId} {μ : mj_M} {H : Heap} {locs : List Loc} {as : List mj_V} (hE : mk_Ext (js_XS fo aw v) (fun _ _ => at_) A s) (had : ad 64 0 = at_) (hK : va_K D vwCl tys s) (hAs : ∀ q, s.heap.size ≤ q → A q) (hP : va_P D vwCl (mk_ws lo hi cA ad μ) H) (hD : va_D A (mk_ws lo hi cA ad μ)) (hS : va_S A s.heap H locs) :
    (∀ x, mk_A lo hi ad H.size x → A x) ∧ (FrameBlind (mk_Pre (js_XS fo aw v) lo hi cA ad D tys as μ H.size) ∧ ∀ U : State, U.heap = H → s.WarmedH U.vm → mk_Pre (js_XS fo aw v) lo hi cA ad D tys as μ H.size (as.map (mk_ev ad)).toArray U) := by
  have hAA : ∀ x, mk_A lo hi ad H.size x → A x := by
    rintro x (⟨c, hc, rfl⟩ | h)
    · obtain ⟨k, hk⟩ := List.getElem?_of_mem hc
      exact hD.2 k _ (mk_ws_at (s := c.1) (i := c.2) hk)
    · exact hAs x (Nat.le_trans hS.1 h)
  have hE2 : mk_Ext (js_XS fo aw v) ad A s := by
    refine ⟨hE.1, ?_, ?_, hE.2.2.2⟩
    · rw [had]; exact hE.2.1
    · rw [had]; exact hE.2.2.1
  refine ⟨hAA, fun a' U g mk q => ?_, fun U hU hW => ?_⟩
  · obtain ⟨q0, q1, q2, q3, q4, q5⟩ := q
    exact ⟨q0, q1, q2, va_K.moved (u := U) (U := U.calling g mk a') (Vm.Alike.refl U.vm) q3, q4, mk_Ext_mv (u := U) (U := U.calling g mk a') (js_XSc fo aw v) (State.WarmedH.refl U) (fun _ _ _ => rfl) (fun _ h => h) q5⟩
  · exact ⟨rfl, by rw [hU], by rw [hU]; exact hP, va_K.moved hW.alike hK, mk_D_A hD, mk_Ext_mv (js_XSc fo aw v) hW (fun a' ha hn => by rw [hU]; exact hS.2.1 a' ha hn) hAA hE2⟩
/-- the last of a big constructor: text(), pop, return -/
theorem kz_tx {lo hi aw at_ v q y s0 idx : Nat} {fo : Option Nat} {off : Nat → Nat → Nat} {μ μ1 : mj_M} {x : Int} {ν : Nat → Nat} {H : Heap} {locs : List Loc} (X : kzX p s m args meth c τ D tys (kzA q s.heap.size) own bytes n) (hls : ls.size = n) (hE : mk_Ext (js_XS fo aw v) (fun _ _ => at_) (kzA q s.heap.size) s) (hW : (mk_cells lo hi).Nodup ∧ mk_closed lo hi = true ∧ hi ≤ 63) (hm : mk_vm μ) (hk : kc 60 y [v_r s0 0] μ = some (some (v_i x), μ1)) (hs0 : lo ≤ s0 ∧ s0 < hi ∧ 0 < mk_cnt s0) (hlo : lo = s0)
    (hν : ν (off s0 0) = q) (hy : (mk_mi y).2.2.1 = some .int)
    (h1 : Cond.methodLink (mk_cn own) idx (mk_mi y).1 ∈ mk_tb) (h2 : Cond.instanceMethod (mk_mi y).1 ∈ mk_tb) (h5 : Cond.selects (mk_mi y).1.cls (mk_mi y).1 (mk_mi y).1 ∈ mk_tb) (h3 : Cond.initialized (mk_mi y).1.cls ∈ mk_tb) (h4 : Cond.code (mk_mi y).1 (mk_mi y).2.1 (mk_mi y).2.2.2.2.1 (mk_mi y).2.2.1 ∈ mk_tb) (hd : (mk_mi y).1.cls = (mk_mi y).1.cls ∧ (mk_mi y).1.cls ≠ "java/lang/invoke/MethodHandle" ∧ (mk_mi y).1.cls ≠ "java/lang/invoke/VarHandle" ∧ (parseMethodDescriptor (mk_mi y).1.desc).map (fun d => d.parameters.length) = some 0)
    (hR : 68 ≤ R.frames ∧ 5000 ≤ R.locals) (hL : (mk_mi y).2.2.2.2.1 ≤ 40) (hcl : ∃ ci cn sl, mj_srt mk_LY s0 = (0, ci, cn, sl) ∧ ∃ qc, vwCl[ci]? = some qc ∧ qc.1 = (mk_mi y).1.cls) (hf : cells ≤ R.cells ∧ slots ≤ R.slots) (hr : meth.sig.returnType = none) (hlk : meth.locks = false)
    (d0 : decode bytes pc = .ok (.invokevirtual idx, 3)) (d1 : decode bytes (pc + 3) = .ok (.pop, 1)) (d2 : decode bytes (pc + 3 + 1) = .ok (.return_, 1))
    (hP : va_P D vwCl (mk_ws lo hi (fun s => τ (kzkA s)) (kzad ν off aw at_) μ) H) (hD : va_D (kzA q s.heap.size) (mk_ws lo hi (fun s => τ (kzkA s)) (kzad ν off aw at_) μ)) (hS : va_S (kzA q s.heap.size) s.heap H locs) :
    W p l e R s m args below meth c H locs cells slots (MQ below (kzPostB τ D q s.heap.size lo hi off aw at_ μ1) args s cells slots (kzA q s.heap.size)) (F0 m pc ls [.ref q]) := by
  have hTY : mk_TY lo hi (fun s => τ (kzkA s)) tys := kz_TY X.2.2.2.2.2.2.2.1 hW.2.2
  have hM := mk_sound (l := l) (D := D) (js_XSc fo aw v) (js_Str (lo := lo) (hi := hi) (cA := fun s => τ (kzkA s)) (ad := kzad ν off aw at_) (D := D) (tys := tys) (fo := fo) (v := v)) ⟨hW.1, hW.2.1, hTY⟩ hk
  have hA63 : kzad ν off aw at_ 63 0 = aw := rfl
  have hq : kzad ν off aw at_ s0 0 = q := by rw [kzad_lt (Nat.lt_of_lt_of_le hs0.2.1 hW.2.2)]; exact hν
  have hmt := hM.2 (fun w hw => by
    rcases List.mem_cons.mp hw with g | g
    · rw [g]; exact Or.inl hs0
    · cases g) hm H.size
  obtain ⟨hAA, hblind, hpre⟩ := kz_pre (as := [v_r s0 0]) hE (ad := kzad ν off aw at_) rfl X.2.2.2.2.2.2.1 X.2.2.2.2.2.2.2.2.1 hP hD hS
  have hargs : ([v_r s0 0].map (mk_ev (kzad ν off aw at_))) = [Value.ref q] := by
    show [Value.ref (kzad ν off aw at_ s0 0)] = _
    rw [hq]
  rw [hargs] at hpre
  have hrecv : ∃ cell : Cell, H[q]? = some cell ∧ cell.vm.isStatics = false ∧ s.vm.findClass (mk_mi y).1.cls = some cell.cls := by
    obtain ⟨ci, cn, sl, e1, qc, e2, e3⟩ := hcl
    obtain ⟨j, hj⟩ := mk_cell_at hs0.1 hs0.2.1 hs0.2.2
    have hat := mk_ws_at (cA := fun s => τ (kzkA s)) (ad := kzad ν off aw at_) (μ := μ) hj
    have hen : mk_en (fun s => τ (kzkA s)) (kzad ν off aw at_) μ s0 0 = .inr (ci, mk_fs (kzad ν off aw at_) μ s0 0 0 sl) := by simp only [mk_en, e1]
    rw [hen, hq] at hat
    rw [← e3]
    exact va_recv X.2.2.2.2.2.2.1 hP e2 hat
  have run := js_runV (l := l) (e := e) (below := below) (meth := meth) (H := H) (locs := locs) (cells := cells) (slots := slots) (R := R) (ls := ls) (pc := pc) (index := idx) (y := (mk_mi y).1) (bytes := (mk_mi y).2.1) (maxL := (mk_mi y).2.2.2.2.1) (ret := (mk_mi y).2.2.1) (rm := mk_rm 59) (mc := 0) (ms := 0) (As := []) (b := q) (rest := []) (own := mk_cn own) (cc := bytes) (nL := n)
    ⟨X.1, X.2.1, X.2.2.1, X.2.2.2.1, X.2.2.2.2.1⟩ hmt rfl rfl h1 h2 h5 h3 h4 hd ⟨by show 59 + 8 + 1 ≤ _; omega, by show 8 + (_ + 11) + (64 * 59 + 400) ≤ _; omega⟩ hrecv ⟨hblind, hpre⟩ hls (by decide) d0 hf
  refine va_calli (a := #[Value.ref q]) (S := Unit) (post := fun w _ => w = Int32.ofInt x ∧ mj_n32 x) (B := fun _ => mk_B lo hi (fun s => τ (kzkA s)) (kzad ν off aw at_) D tys μ1 H.size) (A1 := mk_A lo hi (kzad ν off aw at_) H.size) run hS (fun x _ h => hAA x h) hAA (fun r u t H1 locs1 ht hvm hw hB hz1 hk1 hS1 => ?_)
  obtain ⟨b1, b2, b3, b4⟩ := hB
  refine lv_pop X.1 X.2.1 d1 rfl ?_
  exact W.vret X.1 X.2.1 hr (fun t2 ht2 hW2 => ⟨⟨ν, rfl, by rw [hlo]; exact hν, b1, by rw [ht2, ← ht]; exact b2, b4.weaken (fun _ _ _ hx => hAA _ hx)⟩, hS1.F ht2⟩) hS1.2.2 d2 hlk
end KB
