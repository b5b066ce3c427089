/-! the steps inside a constructor -/
def kzT (τ : Nat → ClassId) (tys : List (ClassId × FieldType)) : Prop := tys[0]? = some (τ 0, .int) ∧ tys[1]? = some (τ 1, .long) ∧ tys[2]? = some (τ 2, .object RX0) ∧ tys[3]? = some (τ 3, .object RX6) ∧ tys[4]? = some (τ 4, .object RX4)
def kzNL : List (String × Nat × MethodName) := [(RX7, 9, yX3_init), (RX7, 41, yX5_init), (RX7, 54, yX1_init), (RX1, 11, yX3_init), (RX7, 61, yX2_init), (RX7, 70, yX0_init), (RX7, 71, yX6_init), (RX7, 72, yX4_init)]
def kzEnv (U : State) : Prop := (∀ q ∈ kzNL, va_Nw (.methodLinkNest q.1 q.2.1 q.2.2 RX7) U) ∧ va_AO RX0 U ∧ va_AO RX6 U ∧ va_AO RX4 U
theorem kzEnv.mv {u U : State} (hW : u.WarmedH U.vm) (h : kzEnv u) : kzEnv U :=
  ⟨fun q hq => va_Nw.warmM hW (h.1 q hq), va_AO.moved hW.alike h.2.1, va_AO.moved hW.alike h.2.2.1, va_AO.moved hW.alike h.2.2.2⟩
def kzA (q sz : Nat) : Nat → Prop := fun x => x = q ∨ sz ≤ x
def kzPre (D : va_G) (tys : List (ClassId × FieldType)) (ci : Nat) (z : List kzU) (q sz : Nat) : Array Value → State → Prop := va_Pc [.ref q] (fun U => U.heap.size = sz ∧ q < sz ∧ va_P D vwCl [(q, .inr (ci, z.map (kzV (fun _ => q))))] U.heap ∧ va_K D vwCl tys U ∧ kzEnv U)
def kzPost (τ : Nat → ClassId) (D : va_G) (q sz : Nat) (out : List kzC) : Array Value → State → Outcome → State → Prop := va_Qv (fun ν : Nat → Nat => ν 0 = q) (fun ν t => va_P D vwCl (kzW τ ν out) t.heap ∧ va_D (kzA q sz) (kzW τ ν out)) (kzA q sz)
def kzX (p : Program) (s : State) (m : MethodId) (args : Array Value) (meth : Method) (c : Code) (τ : Nat → ClassId) (D : va_G) (tys : List (ClassId × FieldType)) (A : Nat → Prop) (own : Nat) (bytes : ByteArray) (n : Nat) : Prop :=
  p.tables.exec = Jvm.exec ∧ c.code = bytes ∧ c.maxLocals = n ∧ s.vm.findClass (mk_cn own) = some m.cls ∧ (∀ w ∈ mk_tb, w.before args s = true) ∧ meth.name = "<init>" ∧ va_K D vwCl tys s ∧ kzT τ tys ∧ (∀ q, s.heap.size ≤ q → A q) ∧ kzEnv s
def kzL (ls : Array Slot) (n self : Nat) : Prop := lv_has ls n [(0, .ref self)]
def kzG (p : Program) (l : Launch) (e : Env) (R : Room) (s : State) (m : MethodId) (args : Array Value) (below : List Frame) (meth : Method) (c : Code) (Q : State → Prop) (τ : Nat → ClassId) (D : va_G) (A : Nat → Prop) (ls : Array Slot) (self cells slots : Nat) (cs : List kzC) (pc : Nat) (sv : List kzU) : Prop :=
  ∀ (ν : Nat → Nat) (H : Heap) (locs : List Loc), ν 0 = self → va_P D vwCl (kzW τ ν cs) H → va_D A (kzW τ ν cs) → va_S A s.heap H locs → W p l e R s m args below meth c H locs cells slots Q (F0 m pc ls (sv.map (kzV ν)))
/-- a constant is pushed -/
def kzK (own : Nat) (bytes : ByteArray) (pc : Nat) (x : Int) (pc2 : Nat) : Prop := (decode bytes pc = .ok (.iconst x, 1) ∧ pc2 = pc + 1) ∨ (decode bytes pc = .ok (.bipush x, 2) ∧ pc2 = pc + 2 ∧ -128 ≤ x ∧ x < 128) ∨ (decode bytes pc = .ok (.sipush x, 3) ∧ pc2 = pc + 3 ∧ -32768 ≤ x ∧ x < 32768) ∨ (∃ idx, decode bytes pc = .ok (.ldc idx, 2) ∧ pc2 = pc + 2 ∧ Cond.constant (mk_cn own) idx (Int32.ofInt x) ∈ mk_tb)
def kzok (cs : List kzC) (sv : List kzU) : Bool := Nat.blt 0 cs.length && kzOK cs.length cs && sv.all (kzc cs.length)
theorem kz_cat {ν : Nat → Nat} : ∀ sv : List kzU, ((sv.map (kzV ν)).map fun v => v.category).sum = sv.length
  | [] => rfl
  | .inl _ :: r => by
    show 1 + ((r.map (kzV ν)).map fun v => v.category).sum = r.length + 1
    rw [kz_cat r]; omega
  | .inr none :: r => by
    show 1 + ((r.map (kzV ν)).map fun v => v.category).sum = r.length + 1
    rw [kz_cat r]; omega
  | .inr (some _) :: r => by
    show 1 + ((r.map (kzV ν)).map fun v => v.category).sum = r.length + 1
    rw [kz_cat r]; omega
theorem kz_RA {u : State} {ty : FieldType} {a b : ClassId} (h1 : va_RA u a ty) (h2 : va_RA u b ty) : a = b := by
  cases ty with
  | object C =>
    obtain ⟨_, _, -, -, -, e1⟩ := h1
    obtain ⟨_, _, -, -, -, e2⟩ := h2
    exact Option.some.inj (e1.symm.trans e2)
  | _ => exact Option.some.inj (Eq.trans (Eq.symm h1) h2)
theorem kz_last {D : va_G} {tys : List (ClassId × FieldType)} {u : State} {ty : FieldType} {a b : ClassId} {k : Nat} (h : va_K D vwCl (tys ++ [(a, ty)]) u) (hk : tys[k]? = some (b, ty)) : a = b := by
  refine kz_RA (h.2 tys.length (a, ty) ?_).2 (h.2 k (b, ty) ?_).2
  · rw [List.getElem?_append_right (Nat.le_refl _), Nat.sub_self]; rfl
  · rw [List.getElem?_append_left (List.getElem?_eq_some_iff.mp hk).1]; exact hk
section KZ
variable {p : Program} {l : Launch} {e : Env} {R : Room} {s : State} {m : MethodId} {args : Array Value} {below : List Frame} {meth : Method} {c : Code} {Q : State → Prop} {τ : Nat → ClassId} {D : va_G} {tys : List (ClassId × FieldType)} {A : Nat → Prop} {own : Nat} {bytes : ByteArray} {n : Nat}
variable {ls : Array Slot} {self cells slots pc : Nat} {cs : List kzC} {sv : List kzU}
theorem kz_al0 (X : kzX p s m args meth c τ D tys A own bytes n) (L : kzL ls n self) (d : decode bytes pc = .ok (.aload_n 0, 1)) (k : kzG p l e R s m args below meth c Q τ D A ls self cells slots cs (pc + 1) (.inr (some 0) :: sv)) : kzG p l e R s m args below meth c Q τ D A ls self cells slots cs pc sv :=
  fun ν H locs h0 hP hD hS => lv_aload_n (x := ν 0) X.1 X.2.1 d rfl (by rw [h0]; exact lv_at L 0 rfl) (k ν H locs h0 hP hD hS)
theorem kz_k (X : kzX p s m args meth c τ D tys A own bytes n) {x : Int} {pc2 : Nat} (h : kzK own bytes pc x pc2) (k : kzG p l e R s m args below meth c Q τ D A ls self cells slots cs pc2 (.inl x :: sv)) : kzG p l e R s m args below meth c Q τ D A ls self cells slots cs pc sv := by
  intro ν H locs h0 hP hD hS
  have g := k ν H locs h0 hP hD hS
  rcases h with ⟨d, rfl⟩ | ⟨d, rfl, hv⟩ | ⟨d, rfl, hv⟩ | ⟨idx, d, rfl, hw⟩
  · exact lv_iconst X.1 X.2.1 d rfl g
  · exact lv_bipush X.1 X.2.1 d (mk_b8 hv) g
  · exact lv_sipush X.1 X.2.1 d (mk_b16 hv) g
  · exact lv_ldc X.1 X.2.1 X.2.2.2.1 (X.2.2.2.2.1 _ hw) d g
theorem kz_dup (X : kzX p s m args meth c τ D tys A own bytes n) {v : kzU} (d : decode bytes pc = .ok (.dup, 1)) (k : kzG p l e R s m args below meth c Q τ D A ls self cells slots cs (pc + 1) (v :: v :: sv)) : kzG p l e R s m args below meth c Q τ D A ls self cells slots cs pc (v :: sv) :=
  fun ν H locs h0 hP hD hS => lv_dup X.1 X.2.1 d (by
    match v with
    | .inl _ => rfl
    | .inr none => rfl
    | .inr (some _) => rfl) (k ν H locs h0 hP hD hS)
theorem kz_push {e0 : va_E} {e1 : kzC} {ν : Nat → Nat} {q : Nat} {H : Heap} (ho : kzok cs sv = true) (he : kzE τ ν e1 = e0) (hc : e1.2.2.all (kzc cs.length) = true) (hP : va_P D vwCl (kzW τ ν cs ++ [(q, e0)]) H) (hD : va_D A (kzW τ ν cs ++ [(q, e0)])) :
    (kzN ν cs.length q) 0 = ν 0 ∧ va_P D vwCl (kzW τ (kzN ν cs.length q) (cs ++ [e1])) H ∧ va_D A (kzW τ (kzN ν cs.length q) (cs ++ [e1])) ∧ sv.map (kzV (kzN ν cs.length q)) = sv.map (kzV ν) ∧ (kzN ν cs.length q) cs.length = q := by
  unfold kzok at ho
  simp only [Bool.and_eq_true] at ho
  obtain ⟨⟨o1, o2⟩, o3⟩ := ho
  have e2 := kzW_push (τ := τ) (ν := ν) (q := q) (e := e1) o2 hc
  rw [he] at e2
  rw [e2]
  exact ⟨(kzN_lt (Nat.blt_eq.mp o1)).symm, hP, hD, (kzV_map (fun k hk => kzN_lt hk) o3).symm, kzN_eq⟩
theorem kz_ni (X : kzX p s m args meth c τ D tys A own bytes n) {x : Int} {N : Nat} (d : decode bytes pc = .ok (.newarray .int, 2)) (hn : ¬ Int32.ofInt x < 0) (hN : (Int32.ofInt x).toNatClampNeg = N) (hb : N * 4 ≤ 536870912) (h1 : cells + 1 ≤ R.cells) (h2 : slots + N ≤ R.slots) (ho : kzok cs sv = true) (k : kzG p l e R s m args below meth c Q τ D A ls self (cells + 1) (slots + N) (cs ++ [(1, N, [])]) (pc + 2) (.inr (some cs.length) :: sv)) : kzG p l e R s m args below meth c Q τ D A ls self cells slots cs pc (.inl x :: sv) := by
  intro ν H locs h0 hP hD hS
  refine va_newa (atype := .int) (a0 := (N, .inl (fun _ => 0))) X.1 X.2.1 (X.2.2.2.2.1 _ (mk_t1 89 rfl rfl)) rfl X.2.2.2.2.2.2.1 hP hD hS X.2.2.2.2.2.2.2.2.1 (fun _ => rfl) hn hN hb h1 h2 d (fun q cA H1 hK1 hP1 hD1 hS1 => ?_)
  have hcA := kz_last hK1 X.2.2.2.2.2.2.2.1.1
  subst hcA
  obtain ⟨g1, g2, g3, g4, g5⟩ := kz_push (e1 := (1, N, [])) ho rfl rfl hP1 hD1
  have g := k _ H1 locs (g1.trans h0) g2 g3 hS1
  rw [List.map_cons, g4] at g
  show W p l e R s m args below meth c H1 locs (cells + 1) (slots + N) Q (F0 m (pc + 2) ls (.ref q :: sv.map (kzV ν)))
  rw [← g5]
  exact g
theorem kz_nl (X : kzX p s m args meth c τ D tys A own bytes n) {x : Int} {N : Nat} (d : decode bytes pc = .ok (.newarray .long, 2)) (hn : ¬ Int32.ofInt x < 0) (hN : (Int32.ofInt x).toNatClampNeg = N) (hb : N * 8 ≤ 536870912) (h1 : cells + 1 ≤ R.cells) (h2 : slots + N ≤ R.slots) (ho : kzok cs sv = true) (k : kzG p l e R s m args below meth c Q τ D A ls self (cells + 1) (slots + N) (cs ++ [(2, N, [])]) (pc + 2) (.inr (some cs.length) :: sv)) : kzG p l e R s m args below meth c Q τ D A ls self cells slots cs pc (.inl x :: sv) := by
  intro ν H locs h0 hP hD hS
  refine va_newa (atype := .long) (a0 := (N, .inr (.inl (fun _ => 0)))) X.1 X.2.1 (X.2.2.2.2.1 _ (mk_t1 228 rfl rfl)) rfl X.2.2.2.2.2.2.1 hP hD hS X.2.2.2.2.2.2.2.2.1 (fun _ => rfl) hn hN hb h1 h2 d (fun q cA H1 hK1 hP1 hD1 hS1 => ?_)
  have hcA := kz_last hK1 X.2.2.2.2.2.2.2.1.2.1
  subst hcA
  obtain ⟨g1, g2, g3, g4, g5⟩ := kz_push (e1 := (2, N, [])) ho rfl rfl hP1 hD1
  have g := k _ H1 locs (g1.trans h0) g2 g3 hS1
  rw [List.map_cons, g4] at g
  show W p l e R s m args below meth c H1 locs (cells + 1) (slots + N) Q (F0 m (pc + 2) ls (.ref q :: sv.map (kzV ν)))
  rw [← g5]
  exact g
theorem kz_nr (X : kzX p s m args meth c τ D tys A own bytes n) {x : Int} {N kk idx : Nat} {C : String} (d : decode bytes pc = .ok (.anewarray idx, 3)) (hcl : Cond.classLink (mk_cn own) idx C ∈ mk_tb) (hov : va_AO C s) (ht : tys[kk + 2]? = some (τ (kk + 2), .object C)) (hn : ¬ Int32.ofInt x < 0) (hN : (Int32.ofInt x).toNatClampNeg = N) (hb : N * 4 ≤ 536870912) (h1 : cells + 1 ≤ R.cells) (h2 : slots + N ≤ R.slots) (ho : kzok cs sv = true) (k : kzG p l e R s m args below meth c Q τ D A ls self (cells + 1) (slots + N) (cs ++ [(kk + 3, N, [])]) (pc + 3) (.inr (some cs.length) :: sv)) : kzG p l e R s m args below meth c Q τ D A ls self cells slots cs pc (.inl x :: sv) := by
  intro ν H locs h0 hP hD hS
  refine va_newq X.1 X.2.1 X.2.2.2.1 (X.2.2.2.2.1 _ hcl) hov X.2.2.2.2.2.2.1 hP hD hS X.2.2.2.2.2.2.2.2.1 hn hN hb h1 h2 d (fun q cA H1 hK1 hP1 hD1 hS1 => ?_)
  have hcA := kz_last hK1 ht
  subst hcA
  obtain ⟨g1, g2, g3, g4, g5⟩ := kz_push (e1 := (kk + 3, N, [])) ho rfl rfl hP1 hD1
  have g := k _ H1 locs (g1.trans h0) g2 g3 hS1
  rw [List.map_cons, g4] at g
  show W p l e R s m args below meth c H1 locs (cells + 1) (slots + N) Q (F0 m (pc + 3) ls (.ref q :: sv.map (kzV ν)))
  rw [← g5]
  exact g
theorem kzI_app {vs : List kzU} {x : Int} (j : Nat) : kzI (vs ++ [.inl x]) j = if j = vs.length then x else kzI vs j := by
  unfold kzI
  by_cases h : j = vs.length
  · subst h
    rw [if_pos rfl, List.getElem?_append_right (Nat.le_refl _), Nat.sub_self]
    rfl
  · rw [if_neg h]
    by_cases g : j < vs.length
    · rw [List.getElem?_append_left g]
    · rw [List.getElem?_eq_none (by rw [List.length_append]; show vs.length + 1 ≤ j; omega), List.getElem?_eq_none (by omega)]
theorem kzQ_app {ν : Nat → Nat} {vs : List kzU} {v : Nat} (j : Nat) : kzQ ν (vs ++ [.inr (some v)]) j = if j = vs.length then some (ν v) else kzQ ν vs j := by
  unfold kzQ
  by_cases h : j = vs.length
  · subst h
    rw [if_pos rfl, List.getElem?_append_right (Nat.le_refl _), Nat.sub_self]
    rfl
  · rw [if_neg h]
    by_cases g : j < vs.length
    · rw [List.getElem?_append_left g]
    · rw [List.getElem?_eq_none (by rw [List.length_append]; show vs.length + 1 ≤ j; omega), List.getElem?_eq_none (by omega)]
theorem kz_ia (X : kzX p s m args meth c τ D tys A own bytes n) {x : Int} {N k0 : Nat} {vs : List kzU} (hc : cs[k0]? = some (1, N, vs)) (hi : vs.length < N) (hN : N < 2147483648) (d : decode bytes pc = .ok (.iastore, 1)) (k : kzG p l e R s m args below meth c Q τ D A ls self cells slots (cs.set k0 (1, N, vs ++ [.inl x])) (pc + 1) sv) : kzG p l e R s m args below meth c Q τ D A ls self cells slots cs pc (.inl x :: .inl (vs.length : Int) :: .inr (some k0) :: sv) := by
  intro ν H locs h0 hP hD hS
  have ei : Int32.ofInt (vs.length : Int) = nI vs.length := mj_I_N _
  show W p l e R s m args below meth c H locs cells slots Q (F0 m pc ls (.int (Int32.ofInt x) :: .int (Int32.ofInt (vs.length : Int)) :: .ref (ν k0) :: sv.map (kzV ν)))
  rw [ei]
  refine va_iast X.1 X.2.1 X.2.2.2.2.2.2.1 hP hD hS k0 0 (kzW_get hc) X.2.2.2.2.2.2.2.1.1 (vp_in_nI hi hN) d (fun H1 locs1 hP1 hD1 hS1 => ?_)
  have e1 : (Sum.inl (τ 0, N, Sum.inl (upd (fun j => Int32.ofInt (kzI vs j)) (nI vs.length).toNatClampNeg (Int32.ofInt x))) : va_E) = kzE τ ν (1, N, vs ++ [.inl x]) := by
    show _ = Sum.inl (τ 0, N, Sum.inl (fun j => Int32.ofInt (kzI (vs ++ [.inl x]) j)))
    rw [nI_clamp (by omega)]
    congr 4
    funext j
    rw [kzI_app]
    unfold upd
    by_cases h : j = vs.length
    · rw [if_pos h, if_pos h]
    · rw [if_neg h, if_neg h]
  rw [e1, kzW_set] at hP1 hD1
  exact k ν H1 locs1 h0 hP1 hD1 hS1
theorem kz_as (X : kzX p s m args meth c τ D tys A own bytes n) {N kk k0 v ci : Nat} {vs ws : List kzU} {r : vw_C} (hc : cs[k0]? = some (kk + 3, N, vs)) (hv : cs[v]? = some (0, ci, ws)) (hr : vwCl[ci]? = some r) (ht : tys[kk + 2]? = some (τ (kk + 2), .object r.1)) (hi : vs.length < N) (hN : N < 2147483648) (d : decode bytes pc = .ok (.aastore, 1)) (k : kzG p l e R s m args below meth c Q τ D A ls self cells slots (cs.set k0 (kk + 3, N, vs ++ [.inr (some v)])) (pc + 1) sv) : kzG p l e R s m args below meth c Q τ D A ls self cells slots cs pc (.inr (some v) :: .inl (vs.length : Int) :: .inr (some k0) :: sv) := by
  intro ν H locs h0 hP hD hS
  have ei : Int32.ofInt (vs.length : Int) = nI vs.length := mj_I_N _
  show W p l e R s m args below meth c H locs cells slots Q (F0 m pc ls (.ref (ν v) :: .int (Int32.ofInt (vs.length : Int)) :: .ref (ν k0) :: sv.map (kzV ν)))
  rw [ei]
  refine va_astq X.1 X.2.1 X.2.2.2.2.2.2.1 hP hD hS k0 (kk + 2) v ci (kzW_get hc) ht (kzW_get hv) hr (vp_in_nI hi hN) d (fun H1 locs1 hP1 hD1 hS1 => ?_)
  have e1 : (Sum.inl (τ (kk + 2), N, Sum.inr (Sum.inr (Sum.inr (Sum.inr (va_up (kzQ ν vs) (nI vs.length).toNatClampNeg (some (ν v))))))) : va_E) = kzE τ ν (kk + 3, N, vs ++ [.inr (some v)]) := by
    show _ = Sum.inl (τ (kk + 2), N, Sum.inr (Sum.inr (Sum.inr (Sum.inr (kzQ ν (vs ++ [.inr (some v)]))))))
    rw [nI_clamp (by omega)]
    congr 7
    funext j
    rw [kzQ_app]
    unfold va_up
    by_cases h : j = vs.length
    · rw [if_pos h]
    · rw [if_neg h]
  rw [e1, kzW_set] at hP1 hD1
  exact k ν H1 locs1 h0 hP1 hD1 hS1
theorem kz_gf (X : kzX p s m args meth c τ D tys A own bytes n) {idx k0 ci j N : Nat} {T : u_T} {Cn : String} {vs : List kzU} {v : kzU} (hc : cs[k0]? = some (0, ci, vs)) (hr : vwCl[ci]? = some (Cn, T, N)) (hj : j < N) (hw : Cond.fieldLink (mk_cn own) idx (T j).1 (T j).2.1 (T j).2.2.1 ∈ mk_tb) (hv : vs[j]? = some v) (d : decode bytes pc = .ok (.getfield idx, 3)) (k : kzG p l e R s m args below meth c Q τ D A ls self cells slots cs (pc + 3) (v :: sv)) : kzG p l e R s m args below meth c Q τ D A ls self cells slots cs pc (.inr (some k0) :: sv) := by
  intro ν H locs h0 hP hD hS
  refine va_get (v := kzV ν v) X.1 X.2.1 X.2.2.2.2.1 (mk_cls hr).1 X.2.2.2.1 X.2.2.2.2.2.2.1 hP k0 (kzW_get hc) hr j hj (X.2.2.2.2.1 _ hw) (fun _ h => h) (by rw [List.getElem?_map, hv]; rfl) d (k ν H locs h0 hP hD hS)
theorem kz_put (X : kzX p s m args meth c τ D tys A own bytes n) {idx ci j N : Nat} {T : u_T} {Cn : String} {vs : List kzU} {v : kzU} {ty : FieldType} (hr : vwCl[ci]? = some (Cn, T, N)) (hj : j < N) (hw : Cond.fieldLink (mk_cn own) idx (T j).1 (T j).2.1 (T j).2.2.1 ∈ mk_tb) (hd : (T j).1 = mk_cn own) (hty : parseFieldDescriptor (T j).2.2.1 = some ty) (hn : ∀ ν, narrow ty (kzV ν v) = kzV ν v) (hf : ∀ ν, fits ty (kzV ν v) = true) (hl : j < vs.length) (d : decode bytes pc = .ok (.putfield idx, 3)) (k : kzG p l e R s m args below meth c Q τ D A ls self cells slots ((0, ci, vs.set j v) :: cs) (pc + 3) sv) : kzG p l e R s m args below meth c Q τ D A ls self cells slots ((0, ci, vs) :: cs) pc (v :: .inr (some 0) :: sv) := by
  intro ν H locs h0 hP hD hS
  obtain ⟨c1, ⟨ty0, c2⟩, c3⟩ := mk_cls hr
  have kk : ∀ (H1 : Heap) (locs1 : List Loc), va_P D vwCl ((kzW τ ν ((0, ci, vs) :: cs)).set 0 (ν 0, .inr (ci, (vs.map (kzV ν)).set j (kzV ν v)))) H1 → va_D A ((kzW τ ν ((0, ci, vs) :: cs)).set 0 (ν 0, .inr (ci, (vs.map (kzV ν)).set j (kzV ν v)))) → va_S A s.heap H1 locs1 → W p l e R s m args below meth c H1 locs1 cells slots Q (F0 m (pc + 3) ls (sv.map (kzV ν))) := by
    intro H1 locs1 hP1 hD1 hS1
    have e1 : (Sum.inr (ci, (vs.map (kzV ν)).set j (kzV ν v)) : va_E) = kzE τ ν (0, ci, vs.set j v) := by
      show _ = Sum.inr (ci, (vs.set j v).map (kzV ν))
      rw [List.map_set]
    rw [e1, kzW_set] at hP1 hD1
    exact k ν H1 locs1 h0 hP1 hD1 hS1
  have he : (kzW τ ν ((0, ci, vs) :: cs))[0]? = some (ν 0, .inr (ci, vs.map (kzV ν))) := kzW_get (e := (0, ci, vs)) rfl
  have hl2 : j < (vs.map (kzV ν)).length := by rw [List.length_map]; exact hl
  cases hb : (T j).2.2.2 with
  | false => exact va_put (v := kzV ν v) X.1 X.2.1 X.2.2.2.2.1 c1 ty0 c2 c3 X.2.2.2.1 X.2.2.2.2.2.2.1 hP hD hS 0 he hr j hj (X.2.2.2.2.1 _ hw) (fun _ h => h) hb hty (hn ν) (hf ν) hl2 d kk
  | true => exact va_putF (v := kzV ν v) X.1 X.2.1 X.2.2.2.2.1 c1 ty0 c2 c3 X.2.2.2.1 X.2.2.2.2.2.2.1 hP hD hS 0 he hr j hj (X.2.2.2.2.1 _ hw) (fun _ h => h) hb X.2.2.2.2.2.1 hd hty (hn ν) (hf ν) hl2 d kk
end KZ
