/-! what holds inside a method of the small machine's code, over the machine itself -/
def mk_asc (ad : mk_AD) : Nat → mj_L → List (Nat × Value)
  | _, [] => []
  | k, none :: r => mk_asc ad (k + 1) r
  | k, some v :: r => (k, mk_ev ad v) :: mk_asc ad (k + 1) r
theorem mk_asc_mem {ad : mk_AD} : ∀ (ls : mj_L) (j : Nat) (q : Nat × Value), q ∈ mk_asc ad j ls ↔ ∃ k v, mj_nth ls k = some (some v) ∧ q = (j + k, mk_ev ad v) := by
  intro ls
  induction ls with
  | nil => intro j q; constructor
           · intro h; cases h
           · rintro ⟨k, v, h, -⟩; cases k <;> cases h
  | cons a r ih =>
    intro j q
    have key : q ∈ mk_asc ad (j + 1) r ↔ ∃ k v, mj_nth (a :: r) (k + 1) = some (some v) ∧ q = (j + (k + 1), mk_ev ad v) := by
      rw [ih]
      constructor
      · rintro ⟨k, v, h1, h2⟩; exact ⟨k, v, h1, by rw [h2, show j + 1 + k = j + (k + 1) by omega]⟩
      · rintro ⟨k, v, h1, h2⟩; exact ⟨k, v, h1, by rw [h2, show j + (k + 1) = j + 1 + k by omega]⟩
    cases a with
    | none =>
      show q ∈ mk_asc ad (j + 1) r ↔ _
      rw [key]
      constructor
      · rintro ⟨k, v, h1, h2⟩; exact ⟨k + 1, v, h1, h2⟩
      · rintro ⟨k, v, h1, h2⟩
        cases k with
        | zero => cases h1
        | succ k => exact ⟨k, v, h1, h2⟩
    | some w =>
      show q ∈ (j, mk_ev ad w) :: mk_asc ad (j + 1) r ↔ _
      rw [List.mem_cons, key]
      constructor
      · rintro (h | ⟨k, v, h1, h2⟩)
        · exact ⟨0, w, rfl, h⟩
        · exact ⟨k + 1, v, h1, h2⟩
      · rintro ⟨k, v, h1, h2⟩
        cases k with
        | zero => cases h1; exact Or.inl h2
        | succ k => exact Or.inr ⟨k, v, h1, h2⟩
theorem mj_nth_set {α : Type} : ∀ (l : List α) (i j : Nat) (x : α), mj_nth (mj_set l i x) j = if j = i then (if i < l.length then some x else none) else mj_nth l j := by
  intro l
  induction l with
  | nil => intro i j x; cases j <;> simp [mj_set, mj_nth]
  | cons a r ih =>
    intro i j x
    cases i with
    | zero => cases j <;> simp [mj_set, mj_nth]
    | succ i =>
      cases j with
      | zero => simp [mj_set, mj_nth]
      | succ j => simp only [mj_set, mj_nth, ih, List.length_cons, Nat.add_right_cancel_iff, Nat.add_lt_add_iff_right]
def mk_lok (ad : mk_AD) (Ls : Array Slot) (n : Nat) (ls : mj_L) : Prop := lv_has Ls n [] ∧ ∀ i v, mj_nth ls i = some (some v) → Ls[i]? = some (.val (mk_ev ad v))
theorem mk_lok_has {ad : mk_AD} {Ls : Array Slot} {n : Nat} {ls : mj_L} (h : mk_lok ad Ls n ls) : lv_has Ls n (mk_asc ad 0 ls) := by
  refine ⟨h.1.1, h.1.2.1, fun q hq => ?_⟩
  obtain ⟨k, v, h1, rfl⟩ := (mk_asc_mem ls 0 q).mp hq
  rw [Nat.zero_add]
  exact h.2 k v h1
theorem mk_cat1 {ad : mk_AD} {v : mj_V} (h : ∀ x, v ≠ .inr (.inl x)) : (mk_ev ad v).category = 1 := by
  match v, h with
  | .inl _, _ => rfl
  | .inr (.inl x), h => exact absurd rfl (h x)
  | .inr (.inr (_, _)), _ => rfl
theorem mk_cats {ad : mk_AD} : ∀ (st : List mj_V), ((st.map (mk_ev ad)).map fun v => v.category).sum = mj_cat st
  | [] => rfl
  | .inl _ :: r => by
    show 1 + ((r.map (mk_ev ad)).map fun v => v.category).sum = mj_cat r + 1
    rw [mk_cats r]; omega
  | .inr (.inl _) :: r => by
    show 2 + ((r.map (mk_ev ad)).map fun v => v.category).sum = mj_cat r + 2
    rw [mk_cats r]; omega
  | .inr (.inr (_, _)) :: r => by
    show 1 + ((r.map (mk_ev ad)).map fun v => v.category).sum = mj_cat r + 1
    rw [mk_cats r]; omega
/-- a store: what the slots hold then -/
theorem mk_lok_st {ad : mk_AD} {Ls' : Array Slot} {n i : Nat} {ls : mj_L} {v : mj_V} (hp : ∀ j x, i = j + 1 → mj_nth ls j ≠ some (some (.inr (.inl x))))
    (h' : lv_has Ls' n ((i, mk_ev ad v) :: (mk_asc ad 0 ls).filter (fun q => !(q.1 == i) && !(q.1 + 1 == i && q.2.category == 2)))) : mk_lok ad Ls' n (mj_set ls i (some v)) := by
  refine ⟨⟨h'.1, h'.2.1, fun q hq => by cases hq⟩, fun j w hj => ?_⟩
  rw [mj_nth_set] at hj
  by_cases e : j = i
  · rw [if_pos e] at hj
    subst e
    split at hj
    · cases hj
      exact h'.2.2 (j, mk_ev ad v) List.mem_cons_self
    · cases hj
  · rw [if_neg e] at hj
    refine h'.2.2 (j, mk_ev ad w) (List.mem_cons_of_mem _ (List.mem_filter.mpr ⟨(mk_asc_mem ls 0 _).mpr ⟨j, w, hj, by rw [Nat.zero_add]⟩, ?_⟩))
    have h1 : (j == i) = false := by simpa using e
    by_cases e2 : j + 1 = i
    · have : (mk_ev ad w).category = 1 := mk_cat1 fun x hx => hp j x e2.symm (by rw [hj, hx])
      simp [h1, this]
    · simp [h1, e2]
theorem mk_lok_sl {ad : mk_AD} {Ls' : Array Slot} {n i : Nat} {ls : mj_L} {x : Int} (hp : ∀ j x, i = j + 1 → mj_nth ls j ≠ some (some (.inr (.inl x))))
    (h' : lv_has Ls' n ((i, .long (Int64.ofInt x)) :: (mk_asc ad 0 ls).filter (fun q => !(q.1 == i) && (!(q.1 == i + 1) && !(q.1 + 1 == i && q.2.category == 2))))) : mk_lok ad Ls' n (mj_set (mj_set ls i (some (.inr (.inl x)))) (i + 1) none) := by
  refine ⟨⟨h'.1, h'.2.1, fun q hq => by cases hq⟩, fun j w hj => ?_⟩
  rw [mj_nth_set] at hj
  by_cases e3 : j = i + 1
  · rw [if_pos e3] at hj
    split at hj <;> cases hj
  rw [if_neg e3, mj_nth_set] at hj
  by_cases e : j = i
  · rw [if_pos e] at hj
    subst e
    split at hj
    · cases hj
      exact h'.2.2 (j, .long (Int64.ofInt x)) List.mem_cons_self
    · cases hj
  · rw [if_neg e] at hj
    refine h'.2.2 (j, mk_ev ad w) (List.mem_cons_of_mem _ (List.mem_filter.mpr ⟨(mk_asc_mem ls 0 _).mpr ⟨j, w, hj, by rw [Nat.zero_add]⟩, ?_⟩))
    have h1 : (j == i) = false := by simpa using e
    have h3 : (j == i + 1) = false := by simpa using e3
    by_cases e2 : j + 1 = i
    · have : (mk_ev ad w).category = 1 := mk_cat1 fun x hx => hp j x e2.symm (by rw [hj, hx])
      simp [h1, h3, this]
    · simp [h1, h3, e2]
theorem mk_sto_sp {ls : mj_L} {a : Nat} {v : mj_V} {κ : mj_L → mj_R} {x : Option mj_V × mj_M} (h : mj_sto ls a v κ = some x) : κ (mj_set ls a (some v)) = some x ∧ ∀ j y, a = j + 1 → mj_nth ls j ≠ some (some (.inr (.inl y))) := by
  cases a with
  | zero => exact ⟨h, fun j y e => by cases e⟩
  | succ j =>
    unfold mj_sto at h
    dsimp only at h
    split at h
    · cases h
    · rename_i hn
      refine ⟨h, fun j' y e => ?_⟩
      cases e
      exact hn y
theorem mk_lok_keep {ad : mk_AD} {Ls : Array Slot} {n : Nat} : ∀ (bs : List Bool) {ls : mj_L}, mk_lok ad Ls n ls → mk_lok ad Ls n (mj_keep bs ls) := by
  intro bs ls h
  refine ⟨h.1, fun i v hi => h.2 i v ?_⟩
  have key : ∀ (bs : List Bool) (ls : mj_L) (i : Nat) (v : mj_V), mj_nth (mj_keep bs ls) i = some (some v) → mj_nth ls i = some (some v) := by
    intro bs
    induction bs with
    | nil => intro ls i v h; cases ls <;> cases i <;> cases h
    | cons b bs ih =>
      intro ls i v h
      cases ls with
      | nil => cases b <;> cases i <;> cases h
      | cons a r =>
        cases b with
        | true =>
          cases i with
          | zero => exact h
          | succ i => exact ih r i v h
        | false =>
          cases i with
          | zero => cases h
          | succ i => exact ih r i v h
  exact key bs ls i v hi
theorem mk_keep_nth : ∀ (bs : List Bool) (ls : mj_L) (i : Nat) (v : mj_V), mj_nth (mj_keep bs ls) i = some (some v) → mj_nth ls i = some (some v) := by
  intro bs
  induction bs with
  | nil => intro ls i v h; cases ls <;> cases i <;> cases h
  | cons b bs ih =>
    intro ls i v h
    cases ls with
    | nil => cases b <;> cases i <;> cases h
    | cons a r =>
      cases b with
      | true =>
        cases i with
        | zero => exact h
        | succ i => exact ih r i v h
      | false =>
        cases i with
        | zero => cases h
        | succ i => exact ih r i v h
/-- the classes of the arrays -/
def mk_TY (lo hi : Nat) (cA : Nat → ClassId) (tys : List (ClassId × FieldType)) : Prop := ∀ t, lo ≤ t → t < hi →
  ((mj_srt mk_LY t).1 = 1 → ∃ t0 : Nat, tys[t0]? = some (cA t, .int)) ∧ ((mj_srt mk_LY t).1 = 2 → ∃ t0 : Nat, tys[t0]? = some (cA t, .long)) ∧ ((mj_srt mk_LY t).1 = 3 → ∃ (t0 : Nat) (C : String), tys[t0]? = some (cA t, .object C))
/-- what lies outside the world and stays: the static table, the text constant (its own facts: XS), the nest mates' links -/
def mk_ab (j : Nat) : Value := .int (Int32.ofInt ((mj_nth [-1, 0, 0, 2, 0, 1] j).getD 0))
def mk_Ext (XS : (Nat → Prop) → State → Prop) (ad : mk_AD) (A : Nat → Prop) (U : State) : Prop := (∀ q ∈ mk_NL, va_Nw (mk_nw q) U) ∧ va_Z "NumbersCalled$Asker" "ABOVE" "[I" (.ref (ad 64 0)) A U U.heap ∧ va_T .int (ad 64 0) 6 mk_ab A U U.heap ∧ XS A U
def mk_Cx (p : Program) (R : Room) (s : State) (m : MethodId) (args : Array Value) (meth : Method) (c : Code) (XS : (Nat → Prop) → State → Prop) (lo hi : Nat) (cA : Nat → ClassId) (ad : mk_AD) (D : va_G) (tys : List (ClassId × FieldType)) (A : Nat → Prop) (own : Nat) (bytes : ByteArray) (n : Nat) (ret : Option FieldType) (d : Nat) : Prop :=
  p.tables.exec = Jvm.exec ∧ c.code = bytes ∧ meth.sig.returnType = ret ∧ c.maxLocals = n ∧ s.vm.findClass (mk_cn own) = some m.cls ∧ (∀ w ∈ mk_tb, w.before args s = true) ∧ meth.locks = false ∧ va_K D vwCl tys s ∧ mk_TY lo hi cA tys ∧ mk_Ext XS ad A s ∧ (∀ q, s.heap.size ≤ q → A q) ∧
  (mk_cells lo hi).Nodup ∧ mk_closed lo hi = true ∧ d + 8 ≤ R.frames ∧ 64 * d + 400 ≤ R.locals
def mk_Rel (s : State) (lo hi : Nat) (cA : Nat → ClassId) (ad : mk_AD) (D : va_G) (A : Nat → Prop) (n : Nat) (ls : mj_L) (st : List mj_V) (μ : mj_M) (H : Heap) (locs : List Loc) (Ls : Array Slot) : Prop :=
  mk_lok ad Ls n ls ∧ (∀ i v, mj_nth ls i = some (some v) → mk_vv lo hi v) ∧ (∀ v ∈ st, mk_vv lo hi v) ∧ mk_vm μ ∧ va_P D vwCl (mk_ws lo hi cA ad μ) H ∧ va_D A (mk_ws lo hi cA ad μ) ∧ va_S A s.heap H locs
def mk_W (p : Program) (l : Launch) (e : Env) (R : Room) (s : State) (m : MethodId) (args : Array Value) (below : List Frame) (meth : Method) (c : Code) (Q : State → Prop) (lo hi : Nat) (cA : Nat → ClassId) (ad : mk_AD) (D : va_G) (A : Nat → Prop) (n : Nat) (pc : Nat) (ls : mj_L) (st : List mj_V) (μ : mj_M) : Prop :=
  ∀ (H : Heap) (locs : List Loc) (Ls : Array Slot), mk_Rel s lo hi cA ad D A n ls st μ H locs Ls → W p l e R s m args below meth c H locs 0 0 Q (F0 m pc Ls (st.map (mk_ev ad)))
