/-! constructors: making an object, the start, the end, rows of literals, locals -/
section KM
variable {p : Program} {l : Launch} {e : Env} {R : Room} {s : State} {m : MethodId} {args : Array Value} {below : List Frame} {meth : Method} {c : Code} {Q : State → Prop} {τ : Nat → ClassId} {D : va_G} {tys : List (ClassId × FieldType)} {A : Nat → Prop} {own : Nat} {bytes : ByteArray} {n : Nat}
variable {ls : Array Slot} {self cells slots pc : Nat} {cs : List kzC} {sv : List kzU}
theorem kz_blind {ci : Nat} {z : List kzU} {q sz : Nat} : FrameBlind (kzPre D tys ci z q sz) := by
  intro a' U g mk h
  obtain ⟨q0, q1, q2, q3, q4, q5⟩ := h
  exact ⟨q0, q1, q2, q3, va_K.moved (u := U) (U := U.calling g mk a') (Vm.Alike.refl U.vm) q4, kzEnv.mv (u := U) (U := U.calling g mk a') (State.WarmedH.refl U) q5⟩
theorem kz_mk (X : kzX p s m args meth c τ D tys A own bytes n) (L : kzL ls n self) {idx idx2 ci N mc ms ny : Nat} {T : u_T} {Cn : String} {y : MethodName} {cy : ByteArray} {rm : Room} {z : List kzU} {out : List kzC} {ty : Nat → FieldType}
    (hr : vwCl[ci]? = some (Cn, T, N)) (hty : ∀ k, k < N → parseFieldDescriptor (T k).2.2.1 = some (ty k)) (hz : ∀ j, j < N → defaultValue (ty j) = vp_V (z.map (kzV (fun _ => 0))) j) (hz0 : z.all (kzc 0) = true)
    (hM : ∀ q sz : Nat, Met l y (js_ws y cy ny none) rm (kzPre D tys ci z q sz) (kzPost τ D q sz out) mc ms (kzA q sz)) (hrc : rm.cells = mc) (hrs : rm.slots = ms)
    (hcl : Cond.classLink (mk_cn own) idx Cn ∈ mk_tb) (hin : Cond.instantiable Cn N ∈ mk_tb) (hini : Cond.initialized Cn ∈ mk_tb) (hcn : y.cls = Cn) (hyn : y.name = "<init>") (hnl : (mk_cn own, idx2, y) ∈ kzNL) (hinst : Cond.instanceMethod y ∈ mk_tb) (hcode : Cond.code y cy ny none ∈ mk_tb)
    (hd : y.cls ≠ "java/lang/invoke/MethodHandle" ∧ y.cls ≠ "java/lang/invoke/VarHandle" ∧ (parseMethodDescriptor y.desc).map (fun d => d.parameters.length) = some 0) (hR : rm.frames + 1 ≤ R.frames ∧ 8 + (ny + 11) + rm.locals ≤ R.locals) (hf : cells + 1 + mc ≤ R.cells ∧ slots + N + ms ≤ R.slots) (hsl : sv.length ≤ 7)
    (d0 : decode bytes pc = .ok (.new idx, 3)) (d1 : decode bytes (pc + 3) = .ok (.dup, 1)) (d2 : decode bytes (pc + 3 + 1) = .ok (.invokespecial idx2, 3)) (ho : kzok cs sv = true)
    (k : kzG p l e R s m args below meth c Q τ D A ls self (cells + 1 + mc) (slots + N + ms) (cs ++ out.map (kzsh cs.length)) (pc + 3 + 1 + 3) (.inr (some cs.length) :: sv)) : kzG p l e R s m args below meth c Q τ D A ls self cells slots cs pc sv := by
  intro ν H locs h0 hP hD hS
  have hts := X.2.2.2.2.1
  have hAs := X.2.2.2.2.2.2.2.2.1
  refine va_new X.1 X.2.1 hts (mk_cls hr).1 ty hty X.2.2.2.1 (hts _ hcl) (hts _ hin) (hts _ hini) X.2.2.2.2.2.2.1 hP hD hS hAs hr (fs := z.map (kzV (fun _ => 0))) hz (by omega) (by omega) d0 (fun q H1 hP1 hD1 hS1 => ?_)
  refine lv_dup X.1 X.2.1 d1 rfl ?_
  have hlast : (kzW τ ν cs ++ [(q, (Sum.inr (ci, z.map (kzV (fun _ => 0))) : va_E))])[(kzW τ ν cs).length]? = some (q, .inr (ci, z.map (kzV (fun _ => 0)))) := by
    rw [List.getElem?_append_right (Nat.le_refl _), Nat.sub_self]; rfl
  have hq : q < H1.size := (hP1 _ _ hlast).lt
  have hAq : A q := hD1.2 _ _ hlast
  have ez : z.map (kzV (fun _ => q)) = z.map (kzV (fun _ => 0)) := kzV_map (fun k hk => absurd hk (Nat.not_lt_zero k)) hz0
  have hPq : va_P D vwCl [(q, .inr (ci, z.map (kzV (fun _ => q))))] H1 := by
    intro i y hy
    rw [ez] at hy
    cases i with
    | zero => cases hy; exact hP1 _ _ hlast
    | succ i => cases hy
  have hAA : ∀ x, kzA q H1.size x → A x := by
    rintro x (h | h)
    · rw [h]; exact hAq
    · exact hAs x (Nat.le_trans hS1.1 h)
  have run := va_runIN (l := l) (e := e) (R := R) (below := below) (meth := meth) (H := H1) (locs := locs) (cells := cells + 1) (slots := slots + N) (y := y) (bytes := cy) (maxL := ny) (n := 0) (b := q) (As := []) (rest := .ref q :: sv.map (kzV ν)) (g := F0 m (pc + 3 + 1) ls (.ref q :: .ref q :: sv.map (kzV ν))) (host := RX7)
    ⟨X.1, X.2.1, X.2.2.1, X.2.2.2.1, hts⟩ (hM q H1.size) ⟨va_cnB (ws' := mk_tb) 0 hts (mk_gin (fun w hw => by
      rcases List.mem_cons.mp hw with rfl | hw
      · exact hcode
      · exact hw)) rfl hrc hrs (X.2.2.2.2.2.2.2.2.2.1 (mk_cn own, idx2, y) hnl) (hts _ (by rw [hcn]; exact hini)) hd hR, hyn, hts _ hinst⟩
    ⟨kz_blind, fun U hU hW => ⟨rfl, by rw [hU], hq, by rw [hU]; exact hPq, va_K.moved hW.alike X.2.2.2.2.2.2.1, kzEnv.mv hW X.2.2.2.2.2.2.2.2.2⟩⟩ rfl rfl L.1 rfl (lv_room (by
      show 1 + ((sv.map (kzV ν)).map fun v => v.category).sum ≤ 8
      rw [kz_cat]; omega)) d2 hf
  refine va_callv run hS1 (fun x _ hx => hAA x hx) hAA (fun u t H2 locs2 ht hvm hp hB hz1 hk1 hS2 => ?_)
  obtain ⟨hP2, hD2⟩ := hB
  rw [ht] at hP2
  unfold kzok at ho
  simp only [Bool.and_eq_true] at ho
  obtain ⟨⟨o1, o2⟩, o3⟩ := ho
  have J := kz_PD hP1 hD1 hk1 (fun x hx => hx) hAA hP2 hD2
  rw [← kzW_join (ν := ν) o2] at J
  have g := k (kzJ ν u cs.length) H2 locs2 ((kzJ_lt (Nat.blt_eq.mp o1)).symm.trans h0) J.1 J.2 hS2
  have e1 : kzJ ν u cs.length cs.length = q := by
    have := kzJ_ge (ν := ν) (ν2 := u) (n := cs.length) 0
    rw [Nat.zero_add] at this
    rw [this]
    exact hp
  have e2 : sv.map (kzV (kzJ ν u cs.length)) = sv.map (kzV ν) := (kzV_map (fun k hk => kzJ_lt hk) o3).symm
  rw [List.map_cons, e2] at g
  rw [← e1]
  exact g
theorem kz_oi (X : kzX p s m args meth c τ D tys A own bytes n) (L : kzL ls n self) {idx k0 : Nat} (hw : Cond.methodLink (mk_cn own) idx objectInit ∈ mk_tb) (d : decode bytes pc = .ok (.invokespecial idx, 3)) (hR : 1 ≤ R.frames ∧ 20 ≤ R.locals) (hsl : sv.length ≤ 8) (k : kzG p l e R s m args below meth c Q τ D A ls self cells slots cs (pc + 3) sv) : kzG p l e R s m args below meth c Q τ D A ls self cells slots cs pc (.inr (some k0) :: sv) := by
  intro ν H locs h0 hP hD hS
  have hts := X.2.2.2.2.1
  refine W.objInit X.1 X.2.1 X.2.2.2.1 (hts _ hw) (hts _ (mk_t1 22 rfl rfl)) (hts _ (mk_t1 23 rfl rfl)) rfl (L.1.trans X.2.2.1.symm) (a := ν k0) (rest := sv.map (kzV ν)) rfl d hR.1 ?_ (k ν H locs h0 hP hD hS)
  show 2 * 0 + ((sv.map (kzV ν)).map fun v => v.category).sum + 12 ≤ R.locals
  rw [kz_cat]
  omega
theorem kz_ret (X : kzX p s m args meth c τ D tys (kzA self s.heap.size) own bytes n) (hr : meth.sig.returnType = none) (hlocks : meth.locks = false) (d : decode bytes pc = .ok (.return_, 1)) : kzG p l e R s m args below meth c (MQ below (kzPost τ D self s.heap.size cs) args s cells slots (kzA self s.heap.size)) τ D (kzA self s.heap.size) ls self cells slots cs pc [] :=
  fun ν H locs h0 hP hD hS => W.vret X.1 X.2.1 hr (fun t ht hW => ⟨⟨ν, rfl, h0, by rw [ht]; exact hP, hD⟩, hS.F ht⟩) hS.2.2 d hlocks
theorem kz_met {y : MethodName} {ci mc ms : Nat} {z : List kzU} {out : List kzC} {rm : Room} (hy : plainName y.cls = true) (hcn : y.cls = mk_cn own) (hyn : y.name = "<init>") (hn : 1 ≤ n) (hT : kzT τ tys) (hz0 : z.all (kzc 0) = true)
    (walk : ∀ (p : Program) (e : Env) (s : State) (m : MethodId) (args : Array Value) (below : List Frame) (meth : Method) (c : Code) (ls : Array Slot) (q : Nat), kzX p s m args meth c τ D tys (kzA q s.heap.size) own bytes n → kzL ls n q → meth.sig.returnType = none → meth.locks = false → kzG p l e rm s m args below meth c (MQ below (kzPost τ D q s.heap.size out) args s mc ms (kzA q s.heap.size)) τ D (kzA q s.heap.size) ls q 0 0 [(0, ci, z)] 0 []) :
    ∀ q sz : Nat, Met l y (js_ws y bytes n none) rm (kzPre D tys ci z q sz) (kzPost τ D q sz out) mc ms (kzA q sz) := by
  intro q sz
  refine Met.ofW (cc := bytes) (maxL := n) (ret := none) hy rfl ?_
  intro p e s m args below meth c s₁ B hml hv
  obtain ⟨rfl, hsz, hq, hP, hK, hE⟩ := hv
  subst hsz
  have hts : ∀ w ∈ mk_tb, w.before [Value.ref q].toArray s = true := fun w hw => atoms_spec (ws := js_ws y bytes n none) B.pre w (List.mem_cons_of_mem _ hw)
  have hown : s.vm.findClass y.cls = some m.cls := findClass_of_methodNamed B.named
  have hin : meth.name = y.name := (name_of_methodNamed B.named B.method).1
  have hl := lv_entry ([.ref q]) (n := n) hn
  rw [lg_entry_eq]
  have hX : kzX p s m [Value.ref q].toArray meth c τ D tys (kzA q s.heap.size) own bytes n := ⟨B.exec, B.bytes, hml, by rw [← hcn]; exact hown, hts, hin.trans hyn, hK, hT, fun _ h => Or.inr h, hE⟩
  have e1 : kzW τ (fun _ => q) [(0, ci, z)] = [(q, .inr (ci, z.map (kzV (fun _ => q))))] := rfl
  refine walk p e s m _ below meth c _ q hX hl B.returns B.notSynchronized (fun _ => q) s.heap [] rfl (by rw [e1]; exact hP) ⟨fun i j a b hi hj _ => ?_, fun i a hi => ?_⟩ va_S.rf
  · rw [e1] at hi hj
    match i, j, hi, hj with
    | 0, 0, _, _ => rfl
    | 0, j + 1, _, hj => cases hj
    | i + 1, _, hi, _ => cases hi
  · rw [e1] at hi
    match i, hi with
    | 0, hi => cases hi; exact Or.inl rfl
    | i + 1, hi => cases hi
/-- a constant at pc -/
def kzRd (bytes : ByteArray) (pc : Nat) : Option (Int × Nat) := match decode bytes pc with
  | .ok (.iconst x, 1) => some (x, pc + 1)
  | .ok (.bipush x, 2) => if -128 ≤ x ∧ x < 128 then some (x, pc + 2) else none
  | .ok (.sipush x, 3) => if -32768 ≤ x ∧ x < 32768 then some (x, pc + 3) else none
  | _ => none
theorem kzRd_K {x : Int} {pc2 : Nat} (h : kzRd bytes pc = some (x, pc2)) : kzK own bytes pc x pc2 := by
  unfold kzRd at h
  split at h
  · rename_i x' hd; cases h; exact Or.inl ⟨hd, rfl⟩
  · rename_i x' hd
    split at h
    · rename_i hx; cases h; exact Or.inr (Or.inl ⟨hd, rfl, hx⟩)
    · cases h
  · rename_i x' hd
    split at h
    · rename_i hx; cases h; exact Or.inr (Or.inr (Or.inl ⟨hd, rfl, hx⟩))
    · cases h
  · cases h
def kzLit (bytes : ByteArray) : Nat → Nat → List (Int × Nat) → Option Nat
  | pc, _, [] => some pc
  | pc, i, (x, nx) :: xs => match decode bytes pc with
    | .ok (.dup, 1) => match kzRd bytes (pc + 1) with
      | some (i', pc2) => match kzRd bytes pc2 with
        | some (x', pc3) => match decode bytes pc3 with
          | .ok (.iastore, 1) => if i' = (i : Int) ∧ x' = x ∧ pc3 + 1 = nx then kzLit bytes nx (i + 1) xs else none
          | _ => none
        | none => none
      | none => none
    | _ => none
theorem kz_lit (X : kzX p s m args meth c τ D tys A own bytes n) {k0 N pc2 : Nat} (hN : N < 2147483648) : ∀ (xs : List (Int × Nat)) (pc : Nat) (vs : List kzU) (cs : List kzC), kzLit bytes pc vs.length xs = some pc2 → cs[k0]? = some (1, N, vs) → vs.length + xs.length ≤ N →
    kzG p l e R s m args below meth c Q τ D A ls self cells slots (cs.set k0 (1, N, vs ++ xs.map (fun q => .inl q.1))) pc2 (.inr (some k0) :: sv) → kzG p l e R s m args below meth c Q τ D A ls self cells slots cs pc (.inr (some k0) :: sv) := by
  intro xs
  induction xs with
  | nil =>
    intro pc vs cs h hc hl k
    cases h
    rw [List.map_nil, List.append_nil] at k
    have e1 : cs.set k0 (1, N, vs) = cs := by
      apply List.ext_getElem?
      intro i
      rw [List.getElem?_set]
      by_cases g : k0 = i
      · subst g
        rw [if_pos rfl, if_pos (List.getElem?_eq_some_iff.mp hc).1, hc]
      · rw [if_neg g]
    rw [e1] at k
    exact k
  | cons y xs ih =>
    obtain ⟨x, nx⟩ := y
    intro pc vs cs h hc hl k
    unfold kzLit at h
    split at h
    · rename_i d0
      split at h
      · rename_i i' p2 r1
        split at h
        · rename_i x' p3 r2
          split at h
          · rename_i d3
            split at h
            · rename_i hx
              obtain ⟨hx1, hx2, hx3⟩ := hx
              subst hx1
              subst hx2
              subst hx3
              rw [List.length_cons] at hl
              refine kz_dup X d0 (kz_k X (kzRd_K r1) (kz_k X (kzRd_K r2) (kz_ia X hc (by omega) hN d3 ?_)))
              have hk : k0 < cs.length := (List.getElem?_eq_some_iff.mp hc).1
              refine ih (p3 + 1) (vs ++ [.inl x']) _ (by rw [List.length_append]; exact h) (by rw [List.getElem?_set, if_pos rfl, if_pos hk]) (by rw [List.length_append]; show vs.length + 1 + xs.length ≤ N; omega) ?_
              rw [List.set_set, List.append_assoc]
              exact k
            · cases h
          · cases h
        · cases h
      · cases h
    · cases h
/-! locals -/
def kzL2 (ls : Array Slot) (self : Nat) (i : Int) : Prop := lv_has ls 2 [(1, .int (Int32.ofInt i)), (0, .ref self)]
theorem kzL2.L {i : Int} (h : kzL2 ls self i) : kzL ls 2 self := lv_sub h [1] rfl
theorem kz_il (X : kzX p s m args meth c τ D tys A own bytes n) {i : Int} (L : kzL2 ls self i) (d : decode bytes pc = .ok (.iload_n 1, 1)) (k : kzG p l e R s m args below meth c Q τ D A ls self cells slots cs (pc + 1) (.inl i :: sv)) : kzG p l e R s m args below meth c Q τ D A ls self cells slots cs pc sv :=
  fun ν H locs h0 hP hD hS => lv_iload_n X.1 X.2.1 d rfl (lv_at L 0 rfl) (k ν H locs h0 hP hD hS)
theorem kz_is0 (X : kzX p s m args meth c τ D tys A own bytes 2) {x : Int} (L : kzL ls 2 self) (d : decode bytes pc = .ok (.istore_n 1, 1)) (k : ∀ ls' : Array Slot, kzL2 ls' self x → kzG p l e R s m args below meth c Q τ D A ls' self cells slots cs (pc + 1) sv) : kzG p l e R s m args below meth c Q τ D A ls self cells slots cs pc (.inl x :: sv) :=
  fun ν H locs h0 hP hD hS => lv_istore_n (lv' := [(1, .int (Int32.ofInt x)), (0, .ref self)]) X.1 X.2.1 d rfl L (by decide) rfl (fun ls' L' => k ls' L' ν H locs h0 hP hD hS)
theorem kz_ii (X : kzX p s m args meth c τ D tys A own bytes 2) {i j : Int} (L : kzL2 ls self i) (hj : Int32.ofInt i + Int32.ofInt 1 = Int32.ofInt j) (d : decode bytes pc = .ok (.iinc 1 1, 3)) (k : ∀ ls' : Array Slot, kzL2 ls' self j → kzG p l e R s m args below meth c Q τ D A ls' self cells slots cs (pc + 3) sv) : kzG p l e R s m args below meth c Q τ D A ls self cells slots cs pc sv :=
  fun ν H locs h0 hP hD hS => lv_iinc (k := 0) (v := Int32.ofInt j) (lv' := [(1, .int (Int32.ofInt j)), (0, .ref self)]) X.1 X.2.1 d L rfl hj (by decide) rfl (fun ls' L' => k ls' L' ν H locs h0 hP hD hS)
theorem kz_gt (X : kzX p s m args meth c τ D tys A own bytes n) {x y off : Int} {tgt : Nat} (h : Int32.ofInt y ≤ Int32.ofInt x) (d : decode bytes pc = .ok (.if_icmp .ge off, 3)) (ht : (pc : Int) + off = (tgt : Int)) (k : kzG p l e R s m args below meth c Q τ D A ls self cells slots cs tgt sv) : kzG p l e R s m args below meth c Q τ D A ls self cells slots cs pc (.inl y :: .inl x :: sv) :=
  fun ν H locs h0 hP hD hS => lv_icmp_ge X.1 X.2.1 d ht (fun _ => k ν H locs h0 hP hD hS) (fun g => absurd h g)
theorem kz_gn (X : kzX p s m args meth c τ D tys A own bytes n) {x y off : Int} {tgt : Nat} (h : ¬ Int32.ofInt y ≤ Int32.ofInt x) (d : decode bytes pc = .ok (.if_icmp .ge off, 3)) (ht : (pc : Int) + off = (tgt : Int)) (k : kzG p l e R s m args below meth c Q τ D A ls self cells slots cs (pc + 3) sv) : kzG p l e R s m args below meth c Q τ D A ls self cells slots cs pc (.inl y :: .inl x :: sv) :=
  fun ν H locs h0 hP hD hS => lv_icmp_ge X.1 X.2.1 d ht (fun g => absurd g h) (fun _ => k ν H locs h0 hP hD hS)
theorem kz_go (X : kzX p s m args meth c τ D tys A own bytes n) {off : Int} {tgt : Nat} (d : decode bytes pc = .ok (.goto off, 3)) (ht : (pc : Int) + off = (tgt : Int)) (k : kzG p l e R s m args below meth c Q τ D A ls self cells slots cs tgt sv) : kzG p l e R s m args below meth c Q τ D A ls self cells slots cs pc sv :=
  fun ν H locs h0 hP hD hS => lv_goto X.1 X.2.1 d ht (k ν H locs h0 hP hD hS)

/-! cells compared -/
def kzub : kzU → kzU → Bool
  | .inl x, .inl y => decide (x = y)
  | .inr none, .inr none => true
  | .inr (some a), .inr (some b) => Nat.beq a b
  | _, _ => false
theorem kzub_eq : ∀ {a b : kzU}, kzub a b = true → a = b
  | .inl x, .inl y, h => by rw [of_decide_eq_true h]
  | .inr none, .inr none, _ => rfl
  | .inr (some a), .inr (some b), h => by rw [Nat.eq_of_beq_eq_true h]
  | .inl _, .inr _, h => by cases h
  | .inr none, .inl _, h => by cases h
  | .inr (some _), .inl _, h => by cases h
  | .inr none, .inr (some _), h => by cases h
  | .inr (some _), .inr none, h => by cases h
def kzlb : List kzU → List kzU → Bool
  | [], [] => true
  | a :: x, b :: y => kzub a b && kzlb x y
  | _, _ => false
theorem kzlb_eq : ∀ {a b : List kzU}, kzlb a b = true → a = b
  | [], [], _ => rfl
  | a :: x, b :: y, h => by
    have h := Bool.and_eq_true_iff.mp (show (kzub a b && kzlb x y) = true from h)
    rw [kzub_eq h.1, kzlb_eq h.2]
  | [], _ :: _, h => by cases h
  | _ :: _, [], h => by cases h
def kzb : List kzC → List kzC → Bool
  | [], [] => true
  | a :: x, b :: y => Nat.beq a.1 b.1 && Nat.beq a.2.1 b.2.1 && kzlb a.2.2 b.2.2 && kzb x y
  | _, _ => false
theorem kzb_eq : ∀ {a b : List kzC}, kzb a b = true → a = b
  | [], [], _ => rfl
  | (a1, a2, a3) :: x, (b1, b2, b3) :: y, h => by
    have h : (Nat.beq a1 b1 && Nat.beq a2 b2 && kzlb a3 b3 && kzb x y) = true := h
    simp only [Bool.and_eq_true] at h
    rw [Nat.eq_of_beq_eq_true h.1.1.1, Nat.eq_of_beq_eq_true h.1.1.2, kzlb_eq h.1.2, kzb_eq h.2]
  | [], _ :: _, h => by cases h
  | _ :: _, [], h => by cases h
def kzob : Option (List kzC) → List kzC → Bool
  | some a, b => kzb a b
  | none, _ => false
theorem kzob_eq {a : Option (List kzC)} {b : List kzC} (h : kzob a b = true) : a = some b := by
  cases a with
  | none => cases h
  | some a => rw [kzb_eq h]
def kzvb : Option kzU → kzU → Bool
  | some a, b => kzub a b
  | none, _ => false
theorem kzvb_eq {a : Option kzU} {b : kzU} (h : kzvb a b = true) : a = some b := by
  cases a with
  | none => cases h
  | some a => rw [kzub_eq h]
def kzcb : Option kzC → kzC → Bool
  | some a, b => kzb [a] [b]
  | none, _ => false
theorem kzcb_eq {a : Option kzC} {b : kzC} (h : kzcb a b = true) : a = some b := by
  cases a with
  | none => cases h
  | some a => rw [(List.cons.inj (kzb_eq h)).1]
def kI (x : Int) : kzU := .inl x
def kO : kzU := .inr none
def kR (k : Nat) : kzU := .inr (some k)
/-! the same, with all that is made given by name -/
def kzput (ci j : Nat) (v : kzU) : List kzC → Option (List kzC)
  | (0, c, vs) :: cs => if c = ci ∧ j < vs.length then some ((0, c, vs.set j v) :: cs) else none
  | _ => none
theorem ky_put (X : kzX p s m args meth c τ D tys A own bytes n) {idx ci j N pc2 : Nat} {T : u_T} {Cn o nm dsc : String} {fin : Bool} {cs2 : List kzC} {v : kzU} {ty : FieldType} (hr : vwCl[ci]? = some (Cn, T, N)) (hj : j < N) (hT : T j = (o, nm, dsc, fin)) (hw : Cond.fieldLink (mk_cn own) idx o nm dsc ∈ mk_tb) (hd : o = mk_cn own) (hty : parseFieldDescriptor dsc = some ty) (hn : ∀ ν, narrow ty (kzV ν v) = kzV ν v) (hf : ∀ ν, fits ty (kzV ν v) = true) (hs : kzob (kzput ci j v cs) cs2 = true) (hp : pc + 3 = pc2) (d : decode bytes pc = .ok (.putfield idx, 3)) (k : kzG p l e R s m args below meth c Q τ D A ls self cells slots cs2 pc2 sv) : kzG p l e R s m args below meth c Q τ D A ls self cells slots cs pc (v :: .inr (some 0) :: sv) := by
  subst hp
  have hs := kzob_eq hs
  match cs, hs with
  | (0, c0, vs) :: cs, hs =>
    have hs : (if c0 = ci ∧ j < vs.length then some ((0, c0, vs.set j v) :: cs) else none) = some cs2 := hs
    split at hs
    · rename_i hcc
      have g1 := hcc.1
      have g2 := hcc.2
      cases hs
      rw [g1]
      rw [g1] at k
      exact kz_put X hr hj (by rw [hT]; exact hw) (by rw [hT]; exact hd) (by rw [hT]; exact hty) hn hf g2 d k
    · cases hs
  | (_ + 1, _, _) :: _, hs => cases hs
  | [], hs => cases hs
theorem ky_ni (X : kzX p s m args meth c τ D tys A own bytes n) {x : Int} {N k0 pc2 cells2 slots2 : Nat} {cs2 : List kzC} (d : decode bytes pc = .ok (.newarray .int, 2)) (hn : ¬ Int32.ofInt x < 0) (hN : (Int32.ofInt x).toNatClampNeg = N) (hb : N * 4 ≤ 536870912) (h1 : cells + 1 ≤ R.cells) (h2 : slots + N ≤ R.slots) (ho : kzok cs sv = true) (e1 : cs.length = k0) (e2 : kzb (cs ++ [(1, N, [])]) cs2 = true) (e3 : cells + 1 = cells2) (e4 : slots + N = slots2) (e5 : pc + 2 = pc2) (k : kzG p l e R s m args below meth c Q τ D A ls self cells2 slots2 cs2 pc2 (.inr (some k0) :: sv)) : kzG p l e R s m args below meth c Q τ D A ls self cells slots cs pc (.inl x :: sv) := by
  have e2 := kzb_eq e2; subst e1; subst e2; subst e3; subst e4; subst e5
  exact kz_ni X d hn hN hb h1 h2 ho k
theorem ky_nl (X : kzX p s m args meth c τ D tys A own bytes n) {x : Int} {N k0 pc2 cells2 slots2 : Nat} {cs2 : List kzC} (d : decode bytes pc = .ok (.newarray .long, 2)) (hn : ¬ Int32.ofInt x < 0) (hN : (Int32.ofInt x).toNatClampNeg = N) (hb : N * 8 ≤ 536870912) (h1 : cells + 1 ≤ R.cells) (h2 : slots + N ≤ R.slots) (ho : kzok cs sv = true) (e1 : cs.length = k0) (e2 : kzb (cs ++ [(2, N, [])]) cs2 = true) (e3 : cells + 1 = cells2) (e4 : slots + N = slots2) (e5 : pc + 2 = pc2) (k : kzG p l e R s m args below meth c Q τ D A ls self cells2 slots2 cs2 pc2 (.inr (some k0) :: sv)) : kzG p l e R s m args below meth c Q τ D A ls self cells slots cs pc (.inl x :: sv) := by
  have e2 := kzb_eq e2; subst e1; subst e2; subst e3; subst e4; subst e5
  exact kz_nl X d hn hN hb h1 h2 ho k
theorem ky_nr (X : kzX p s m args meth c τ D tys A own bytes n) {x : Int} {N kk idx k0 pc2 cells2 slots2 : Nat} {C : String} {cs2 : List kzC} (d : decode bytes pc = .ok (.anewarray idx, 3)) (hcl : Cond.classLink (mk_cn own) idx C ∈ mk_tb) (hov : va_AO C s) (ht : tys[kk + 2]? = some (τ (kk + 2), .object C)) (hn : ¬ Int32.ofInt x < 0) (hN : (Int32.ofInt x).toNatClampNeg = N) (hb : N * 4 ≤ 536870912) (h1 : cells + 1 ≤ R.cells) (h2 : slots + N ≤ R.slots) (ho : kzok cs sv = true) (e1 : cs.length = k0) (e2 : kzb (cs ++ [(kk + 3, N, [])]) cs2 = true) (e3 : cells + 1 = cells2) (e4 : slots + N = slots2) (e5 : pc + 3 = pc2) (k : kzG p l e R s m args below meth c Q τ D A ls self cells2 slots2 cs2 pc2 (.inr (some k0) :: sv)) : kzG p l e R s m args below meth c Q τ D A ls self cells slots cs pc (.inl x :: sv) := by
  have e2 := kzb_eq e2; subst e1; subst e2; subst e3; subst e4; subst e5
  exact kz_nr X d hcl hov ht hn hN hb h1 h2 ho k
def kzcell (cs : List kzC) (k0 N i0 : Nat) : Bool := match cs[k0]? with
  | some (1, n, vs) => Nat.beq n N && Nat.beq vs.length i0
  | _ => false
def kzadd (cs : List kzC) (k0 : Nat) (xs : List (Int × Nat)) : Option (List kzC) := match cs[k0]? with
  | some (1, n, vs) => some (cs.set k0 (1, n, vs ++ xs.map (fun q => .inl q.1)))
  | _ => none
theorem ky_lit (X : kzX p s m args meth c τ D tys A own bytes n) {k0 N i0 pc2 : Nat} {cs2 : List kzC} (xs : List (Int × Nat)) (hN : N < 2147483648) (h : kzLit bytes pc i0 xs = some pc2) (hc : kzcell cs k0 N i0 = true) (hl : i0 + xs.length ≤ N) (e2 : kzob (kzadd cs k0 xs) cs2 = true) (k : kzG p l e R s m args below meth c Q τ D A ls self cells slots cs2 pc2 (.inr (some k0) :: sv)) : kzG p l e R s m args below meth c Q τ D A ls self cells slots cs pc (.inr (some k0) :: sv) := by
  have e3 := kzob_eq e2
  clear e2
  unfold kzcell at hc
  split at hc
  · rename_i n0 vs hcs
    simp only [Bool.and_eq_true] at hc
    have h1 := Nat.eq_of_beq_eq_true hc.1
    have h2 := Nat.eq_of_beq_eq_true hc.2
    subst h1
    subst h2
    unfold kzadd at e3
    rw [hcs] at e3
    have e3 := Option.some.inj e3
    subst e3
    exact kz_lit X hN xs pc vs cs h hcs hl k
  · cases hc
theorem ky_as (X : kzX p s m args meth c τ D tys A own bytes n) {N kk k0 v ci pc2 : Nat} {i : Int} {vs ws : List kzU} {r : vw_C} {cs2 : List kzC} (hc : kzcb (cs[k0]?) (kk + 3, N, vs) = true) (hi0 : (vs.length : Int) = i) (hv : kzcb (cs[v]?) (0, ci, ws) = true) (hr : vwCl[ci]? = some r) (ht : tys[kk + 2]? = some (τ (kk + 2), .object r.1)) (hi : vs.length < N) (hN : N < 2147483648) (d : decode bytes pc = .ok (.aastore, 1)) (e2 : kzb (cs.set k0 (kk + 3, N, vs ++ [.inr (some v)])) cs2 = true) (e5 : pc + 1 = pc2) (k : kzG p l e R s m args below meth c Q τ D A ls self cells slots cs2 pc2 sv) : kzG p l e R s m args below meth c Q τ D A ls self cells slots cs pc (.inr (some v) :: .inl i :: .inr (some k0) :: sv) := by
  have e2 := kzb_eq e2
  subst hi0; subst e2; subst e5
  exact kz_as X (kzcb_eq hc) (kzcb_eq hv) hr ht hi hN d k
def kzget (cs : List kzC) (k0 ci j : Nat) : Option kzU := match cs[k0]? with
  | some (0, c, vs) => if c = ci then vs[j]? else none
  | _ => none
theorem ky_gf (X : kzX p s m args meth c τ D tys A own bytes n) {idx k0 ci j N pc2 : Nat} {T : u_T} {Cn o nm dsc : String} {fin : Bool} {v : kzU} (hr : vwCl[ci]? = some (Cn, T, N)) (hj : j < N) (hT : T j = (o, nm, dsc, fin)) (hw : Cond.fieldLink (mk_cn own) idx o nm dsc ∈ mk_tb) (hg : kzvb (kzget cs k0 ci j) v = true) (d : decode bytes pc = .ok (.getfield idx, 3)) (e5 : pc + 3 = pc2) (k : kzG p l e R s m args below meth c Q τ D A ls self cells slots cs pc2 (v :: sv)) : kzG p l e R s m args below meth c Q τ D A ls self cells slots cs pc (.inr (some k0) :: sv) := by
  subst e5
  have hg2 := kzvb_eq hg
  clear hg
  unfold kzget at hg2
  split at hg2
  · rename_i c0 vs h
    split at hg2
    · rename_i hc
      subst hc
      exact kz_gf X h hr hj (by rw [hT]; exact hw) hg2 d k
    · cases hg2
  · cases hg2
theorem ky_mk (X : kzX p s m args meth c τ D tys A own bytes n) (L : kzL ls n self) {idx idx2 ci N mc ms ny k0 pc2 cells2 slots2 : Nat} {T : u_T} {Cn : String} {y : MethodName} {cy : ByteArray} {rm : Room} {z : List kzU} {out cs2 : List kzC} {ty : Nat → FieldType}
    (hr : vwCl[ci]? = some (Cn, T, N)) (hty : ∀ k, k < N → parseFieldDescriptor (T k).2.2.1 = some (ty k)) (hz : ∀ j, j < N → defaultValue (ty j) = vp_V (z.map (kzV (fun _ => 0))) j) (hz0 : z.all (kzc 0) = true)
    (hM : ∀ q sz : Nat, Met l y (js_ws y cy ny none) rm (kzPre D tys ci z q sz) (kzPost τ D q sz out) mc ms (kzA q sz)) (hrc : rm.cells = mc) (hrs : rm.slots = ms)
    (hcl : Cond.classLink (mk_cn own) idx Cn ∈ mk_tb) (hin : Cond.instantiable Cn N ∈ mk_tb) (hini : Cond.initialized Cn ∈ mk_tb) (hcn : y.cls = Cn) (hyn : y.name = "<init>") (hnl : (mk_cn own, idx2, y) ∈ kzNL) (hinst : Cond.instanceMethod y ∈ mk_tb) (hcode : Cond.code y cy ny none ∈ mk_tb)
    (hd : y.cls ≠ "java/lang/invoke/MethodHandle" ∧ y.cls ≠ "java/lang/invoke/VarHandle" ∧ (parseMethodDescriptor y.desc).map (fun d => d.parameters.length) = some 0) (hR : rm.frames + 1 ≤ R.frames ∧ 8 + (ny + 11) + rm.locals ≤ R.locals) (hf : cells + 1 + mc ≤ R.cells ∧ slots + N + ms ≤ R.slots) (hsl : sv.length ≤ 7)
    (d0 : decode bytes pc = .ok (.new idx, 3)) (d1 : decode bytes (pc + 3) = .ok (.dup, 1)) (d2 : decode bytes (pc + 3 + 1) = .ok (.invokespecial idx2, 3)) (ho : kzok cs sv = true) (e1 : cs.length = k0) (e2 : kzb (cs ++ out.map (kzsh k0)) cs2 = true) (e3 : cells + 1 + mc = cells2) (e4 : slots + N + ms = slots2) (e5 : pc + 3 + 1 + 3 = pc2)
    (k : kzG p l e R s m args below meth c Q τ D A ls self cells2 slots2 cs2 pc2 (.inr (some k0) :: sv)) : kzG p l e R s m args below meth c Q τ D A ls self cells slots cs pc sv := by
  have e2 := kzb_eq e2; subst e1; subst e2; subst e3; subst e4; subst e5
  exact kz_mk X L hr hty hz hz0 hM hrc hrs hcl hin hini hcn hyn hnl hinst hcode hd hR hf hsl d0 d1 d2 ho k
end KM
