/-! what the Statement gives at the law's entry -/
theorem lw_t1 (i : Nat) {w : Cond} (h : tables_1_1[i]? = some w) : w ∈ lw_tbl := List.mem_append_right _ (List.mem_append_left _ (List.mem_of_getElem? h))
theorem lw_t2 (i : Nat) {w : Cond} (h : tables_1_2[i]? = some w) : w ∈ lw_tbl := List.mem_append_right _ (List.mem_append_right _ (List.mem_append_left _ (List.mem_of_getElem? h)))
theorem lw_t4 (i : Nat) {w : Cond} (h : tables_1_4[i]? = some w) : w ∈ lw_tbl := List.mem_append_right _ (List.mem_append_right _ (List.mem_append_right _ (List.mem_append_right _ (List.mem_append_left _ (List.mem_of_getElem? h)))))
noncomputable def lw_fl : List Cond := flatC (Jvm.Cond.and given_1 narrow_1)
theorem lw_w72 : (List.range 72).all (fun j => decide (Cond.eq (.elem (.field (.string "NumbersCalled$Tape" 96) "java/lang/String" "value" "[B") (.int (Int32.ofNat j))) (.int (js_wf j)) ∈ flatC (Jvm.Cond.and given_1 narrow_1))) = true := by decide +kernel
theorem lw_l54 : (List.range 54).all (fun j => decide (Cond.eq (.elem (.field (.string "NumbersCalled" 73) "java/lang/String" "value" "[B") (.int (Int32.ofNat j))) (.int (js_lf j)) ∈ flatC (Jvm.Cond.and given_1 narrow_1))) = true := by decide +kernel
theorem lw_a6 : (List.range 6).all (fun j => decide (Cond.eq (.elem (.static "NumbersCalled$Asker" "ABOVE" "[I") (.int (Int32.ofNat j))) (.int (Int32.ofInt ((mj_nth [-1, 0, 0, 2, 0, 1] j).getD 0))) ∈ flatC (Jvm.Cond.and given_1 narrow_1))) = true := by decide +kernel
theorem lw_str {args : Array Value} {s : State} {own : String} {k n : Nat} {f : Nat → Int32} {A : Nat → Prop} (hn : n < 2 ^ 31) (h1 : (Cond.exactly (.string own k) "java/lang/String").before args s = true) (h2 : (Cond.eq (.field (.string own k) "java/lang/String" "coder" "B") (.int 0)).before args s = true) (h3 : (Cond.arrayOf (.field (.string own k) "java/lang/String" "value" "[B") .byte).before args s = true) (h4 : (Cond.eq (.length (.field (.string own k) "java/lang/String" "value" "[B")) (.int (Int32.ofNat n))).before args s = true)
    (h5 : ∀ j : Nat, j < n → (Cond.eq (.elem (.field (.string own k) "java/lang/String" "value" "[B") (.int (Int32.ofNat j))) (.int (f j))).before args s = true) (hA : ∀ a : Nat, a < s.heap.size → ¬ A a) : ∃ a v : Nat, js_St a v n f A s ∧ (Term.string own k).eval args s none [] s = some (.ref a) := by
  obtain ⟨a, c, cA, kA, q1, q2, q3, q4, q5, q6, -⟩ := Cond.exactly_spec (args := args) (first := s) (o := none) (s := s) (idx := []) (t := .string own k) (cls := "java/lang/String") h1
  obtain ⟨v, hv, hT⟩ := va_Tof (f := fun j => .int (f j)) (A := A) hn h3 (va_eqt h4) (fun j hj => va_eqt (h5 j hj)) hA
  exact ⟨a, v, ⟨⟨cA, q3, q5, by rw [q6]; exact q2, hA a (Array.getElem?_eq_some_iff.mp q3).1⟩, vk_OFof q1 (va_eqt h2) hA, vk_OFof q1 hv hA, hT⟩, q1⟩
theorem lw_inst : ∀ c, c < 9 → ∀ q : vw_C, vwCl[c]? = some q → Cond.instantiable q.1 q.2.2 ∈ mk_tb := by
  intro c hc q hq
  match c, hc with
  | 0, _ => cases hq; exact mk_t1 201 rfl rfl
  | 1, _ => cases hq; exact mk_t1 134 rfl rfl
  | 2, _ => cases hq; exact mk_t1 186 rfl rfl
  | 3, _ => cases hq; exact mk_t1 25 rfl rfl
  | 4, _ => cases hq; exact mk_t2 7 rfl rfl
  | 5, _ => cases hq; exact mk_t1 95 rfl rfl
  | 6, _ => cases hq; exact mk_t1 229 rfl rfl
  | 7, _ => cases hq; exact mk_t1 17 rfl rfl
  | 8, _ => cases hq; exact mk_t4 156 rfl rfl
theorem lw_arr {args : Array Value} {s : State} {ty : FieldType} (h : (Cond.arrayClass ty).before args s = true) (hty : ∀ C, ty ≠ .object C) : ∃ cA : ClassId, ArrOfT s cA ty ∧ va_RA s cA ty := by
  obtain ⟨c, k, comp, h1, h2, h3⟩ := Cond.arrayClass_spec h
  refine ⟨c, fun n z => ⟨fun k h => (by cases h), k, h2, comp, h3⟩, ?_⟩
  cases ty with
  | object C => exact absurd rfl (hty C)
  | _ => exact h1
theorem lw_arq {s : State} {C : String} (h : va_AO C s) : ∃ cA : ClassId, ArrOfT s cA (.object C) ∧ va_RA s cA (.object C) := by
  obtain ⟨comp, c, k, h1, -, h3, h4, h5⟩ := Cond.arrayOver_spec h
  exact ⟨c, fun n z => ⟨fun k h => (by cases h), k, h3, comp, h4⟩, k, comp, h3, h4, h1, h5⟩
theorem kzNLw : ∀ q ∈ kzNL, Cond.methodLinkNest q.1 q.2.1 q.2.2 RX7 ∈ lw_tbl := by
  intro q hq
  unfold kzNL at hq
  rcases List.mem_cons.mp hq with rfl | hq
  · exact lw_t1 26 rfl
  rcases List.mem_cons.mp hq with rfl | hq
  · exact lw_t1 96 rfl
  rcases List.mem_cons.mp hq with rfl | hq
  · exact lw_t1 135 rfl
  rcases List.mem_cons.mp hq with rfl | hq
  · exact lw_t1 140 rfl
  rcases List.mem_cons.mp hq with rfl | hq
  · exact lw_t1 187 rfl
  rcases List.mem_cons.mp hq with rfl | hq
  · exact lw_t1 202 rfl
  rcases List.mem_cons.mp hq with rfl | hq
  · exact lw_t1 230 rfl
  rcases List.mem_cons.mp hq with rfl | hq
  · exact lw_t2 8 rfl
  · cases hq
theorem lw_env {p : Program} {s : State} {m : MethodId} {meth : Method} {c : Code} {b L : Nat} {xs : Nat → Int32} (C0 : lw_At p s m meth c b L xs) : ∃ (fo : Option Nat) (aw v a7 v7 at_ : Nat) (τ : Nat → ClassId) (D : va_G) (tys : List (ClassId × FieldType)), kzT τ tys ∧ va_K D vwCl tys s ∧ kzEnv s ∧ kzExC fo aw v a7 v7 at_ (fun q => s.heap.size ≤ q) s := by
  obtain ⟨-, -, -, -, -, hts, -, -, -, hgv⟩ := C0
  have hs : ∀ w ∈ flatC (Jvm.Cond.and given_1 narrow_1), w.before #[Value.ref b] s = true := flat_of_before _ hgv
  have hA : ∀ a : Nat, a < s.heap.size → ¬ s.heap.size ≤ a := fun a h => Nat.not_le.mpr h
  -- statics
  have z1 : va_Z RJ0 "COMPACT_STRINGS" "Z" (.int 1) (fun q => s.heap.size ≤ q) s s.heap := va_Zof (hts _ (lw_t2 35 rfl)) (hts _ (lw_t1 9 rfl)) (va_eqi (hs _ (by decide +kernel))) hA
  obtain ⟨fv, hfv, hfr⟩ := Cond.isRef_spec (t := .static "jdk/internal/util/Preconditions" "SIOOBE_FORMATTER" "Ljava/util/function/BiFunction;") (hs _ (by decide +kernel))
  have z2 : ∃ fo : Option Nat, va_Z RJ3 "SIOOBE_FORMATTER" "Ljava/util/function/BiFunction;" (jsV fo) (fun q => s.heap.size ≤ q) s s.heap := by
    cases fv with
    | ref a => exact ⟨some a, va_Zof (hts _ (lw_t2 51 rfl)) (hts _ (lw_t1 11 rfl)) hfv hA⟩
    | null => exact ⟨none, va_Zof (hts _ (lw_t2 51 rfl)) (hts _ (lw_t1 11 rfl)) hfv hA⟩
    | _ => cases hfr
  obtain ⟨fo, z2⟩ := z2
  obtain ⟨at_, t1, t2⟩ := va_Tof (f := mk_ab) (N := 6) (ty := .int) (tm := .static "NumbersCalled$Asker" "ABOVE" "[I") (by decide) (hs _ (by decide +kernel)) (va_eqt (z := Int32.ofNat 6) (hs _ (by decide +kernel))) (fun j hj => va_eqt (hs _ (of_decide_eq_true (List.all_eq_true.mp lw_a6 j (List.mem_range.mpr hj))))) hA
  have z3 : va_Z "NumbersCalled$Asker" "ABOVE" "[I" (.ref at_) (fun q => s.heap.size ≤ q) s s.heap := va_Zof (hts _ (lw_t4 154 rfl)) (hts _ (lw_t1 6 rfl)) t1 hA
  -- texts
  obtain ⟨aw, v, w1, w2⟩ := lw_str (own := "NumbersCalled$Tape") (k := 96) (n := 72) (f := js_wf) (by decide) (hs _ (by decide +kernel)) (hs _ (by decide +kernel)) (hs _ (by decide +kernel)) (hs _ (by decide +kernel)) (fun j hj => hs _ (of_decide_eq_true (List.all_eq_true.mp lw_w72 j (List.mem_range.mpr hj)))) hA
  obtain ⟨a7, v7, w3, w4⟩ := lw_str (own := "NumbersCalled") (k := 73) (n := 54) (f := js_lf) (by decide) (hs _ (by decide +kernel)) (hs _ (by decide +kernel)) (hs _ (by decide +kernel)) (hs _ (by decide +kernel)) (fun j hj => hs _ (of_decide_eq_true (List.all_eq_true.mp lw_l54 j (List.mem_range.mpr hj)))) hA
  have r1 : vk_R "NumbersCalled$Tape" 96 js_tx aw s := vk_R.of (hts _ (lw_t2 105 rfl)) w2
  have r2 : vk_R "NumbersCalled" 73 js_ltx a7 s := vk_R.of (hts _ (lw_t2 25 rfl)) w4
  -- classes
  have hk : ∀ c : Nat, ∃ d : ClassId × (Nat → Nat), ∀ q : vw_C, vwCl[c]? = some q → u_Kn s q.1 q.2.1 q.2.2 d.1 d.2 := by
    intro c
    by_cases hc : c < 9
    · cases hq : vwCl[c]? with
      | none => exact ⟨(0, fun _ => 0), fun q h => by cases h⟩
      | some q =>
        obtain ⟨cn, T, N⟩ := q
        obtain ⟨cC, iS, h⟩ := u_known (n := N) (fun w hw => hts w (mk_sub w hw)) (mk_cls hq).1 (hts _ (mk_sub _ (lw_inst c hc _ hq)))
        exact ⟨(cC, iS), fun q h2 => by cases h2; exact h⟩
    · exact ⟨(0, fun _ => 0), fun q h => by
        have := (List.getElem?_eq_some_iff.mp h).1
        exact absurd this (by show ¬ c < 9; exact hc)⟩
  obtain ⟨dd, hdd⟩ := Classical.axiomOfChoice hk
  have o0 : va_AO RX0 s := va_AO.of (hts _ (lw_t1 91 rfl))
  have o6 : va_AO RX6 s := va_AO.of (hts _ (lw_t1 93 rfl))
  have o4 : va_AO RX4 s := va_AO.of (hts _ (lw_t1 132 rfl))
  obtain ⟨c0, g0⟩ := lw_arr (ty := .int) (hts _ (lw_t1 89 rfl)) (fun C h => by cases h)
  obtain ⟨c1, g1⟩ := lw_arr (ty := .long) (hts _ (lw_t1 228 rfl)) (fun C h => by cases h)
  obtain ⟨c2, g2⟩ := lw_arq o0
  obtain ⟨c3, g3⟩ := lw_arq o6
  obtain ⟨c4, g4⟩ := lw_arq o4
  refine ⟨fo, aw, v, a7, v7, at_, fun k => [c0, c1, c2, c3, c4].getD k 0, (fun c => (dd c).1, fun c => (dd c).2), [(c0, .int), (c1, .long), (c2, .object RX0), (c3, .object RX6), (c4, .object RX4)], ⟨rfl, rfl, rfl, rfl, rfl⟩, ⟨fun c q hq => hdd c q hq, fun k q hq => ?_⟩, ⟨fun q hq => va_Nw.of rfl (hts _ (kzNLw q hq)), o0, o6, o4⟩, ⟨⟨fun q hq => va_Nw.of rfl (hts _ (mk_NLw q hq)), z3, t2, ⟨z1, z2⟩, r1, w1⟩, r2, w3⟩⟩
  match k, hq with
  | 0, hq => cases hq; exact g0
  | 1, hq => cases hq; exact g1
  | 2, hq => cases hq; exact g2
  | 3, hq => cases hq; exact g3
  | 4, hq => cases hq; exact g4
  | k + 5, hq => cases hq
