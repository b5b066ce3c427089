/-! THE WORLD that a memory of the small machine stands for -/
abbrev mk_AD : Type := Nat → Nat → Nat
def mk_ev (ad : mk_AD) : mj_V → Value
  | .inl x => .int (Int32.ofInt x)
  | .inr (.inl x) => .long (Int64.ofInt x)
  | .inr (.inr (s, i)) => .ref (ad s i)
def mk_fs (ad : mk_AD) (μ : mj_M) (s i : Nat) : Nat → List (Option (Nat × Nat)) → List Value
  | _, [] => []
  | k, none :: r => .int (Int32.ofInt (μ s i k)) :: mk_fs ad μ s i (k + 1) r
  | k, some (t, o) :: r => .ref (ad t (i + o)) :: mk_fs ad μ s i (k + 1) r
def mk_en (cA : Nat → ClassId) (ad : mk_AD) (μ : mj_M) (s i : Nat) : va_E := match mj_srt mk_LY s with
  | (0, ci, _, sl) => .inr (ci, mk_fs ad μ s i 0 sl)
  | (1, n, _, _) => .inl (cA s, n, .inl (fun j => Int32.ofInt (μ s i j)))
  | (2, n, _, _) => .inl (cA s, n, .inr (.inl (fun j => Int64.ofInt (μ s i j))))
  | (3, n, _, [some (t, o)]) => .inl (cA s, n, .inr (.inr (.inr (.inr (fun j => some (ad t (j + o)))))))
  | _ => .inr (0, [])
def mk_cnt (s : Nat) : Nat := (mj_srt mk_LY s).2.2.1
def mk_cells (lo hi : Nat) : List (Nat × Nat) := (List.range' lo (hi - lo)).flatMap fun s => (List.range (mk_cnt s)).map fun i => (s, i)
def mk_ws (lo hi : Nat) (cA : Nat → ClassId) (ad : mk_AD) (μ : mj_M) : va_W := (mk_cells lo hi).map fun q => (ad q.1 q.2, mk_en cA ad μ q.1 q.2)
theorem mk_cell_at {lo hi s i : Nat} (h1 : lo ≤ s) (h2 : s < hi) (h3 : i < mk_cnt s) : ∃ k : Nat, (mk_cells lo hi)[k]? = some (s, i) := by
  apply List.getElem?_of_mem
  unfold mk_cells
  refine List.mem_flatMap.mpr ⟨s, ?_, List.mem_map.mpr ⟨i, List.mem_range.mpr h3, rfl⟩⟩
  exact List.mem_range'.mpr ⟨s - lo, by omega, by omega⟩
theorem mk_cell_in {lo hi : Nat} {q : Nat × Nat} (h : q ∈ mk_cells lo hi) : lo ≤ q.1 ∧ q.1 < hi ∧ q.2 < mk_cnt q.1 := by
  unfold mk_cells at h
  obtain ⟨s, h1, h2⟩ := List.mem_flatMap.mp h
  obtain ⟨i, h3, rfl⟩ := List.mem_map.mp h2
  obtain ⟨j, h4, h5⟩ := List.mem_range'.mp h1
  have := List.mem_range.mp h3
  exact ⟨by omega, by omega, this⟩
theorem mk_nd_C : (mk_cells 0 33).Nodup := by decide +kernel
theorem mk_nd_R : (mk_cells 33 63).Nodup := by decide +kernel
theorem mk_ws_at {lo hi : Nat} {cA : Nat → ClassId} {ad : mk_AD} {μ : mj_M} {k s i : Nat} (h : (mk_cells lo hi)[k]? = some (s, i)) : (mk_ws lo hi cA ad μ)[k]? = some (ad s i, mk_en cA ad μ s i) := by
  unfold mk_ws
  rw [List.getElem?_map, h]
  rfl
theorem mk_ws_set {lo hi : Nat} {cA : Nat → ClassId} {ad : mk_AD} {μ μ' : mj_M} {k s i : Nat} {e : va_E} (hn : (mk_cells lo hi).Nodup) (h : (mk_cells lo hi)[k]? = some (s, i)) (he : e = mk_en cA ad μ' s i) (ho : ∀ s' i', (s' ≠ s ∨ i' ≠ i) → mk_en cA ad μ' s' i' = mk_en cA ad μ s' i') :
    (mk_ws lo hi cA ad μ).set k (ad s i, e) = mk_ws lo hi cA ad μ' := by
  apply List.ext_getElem?
  intro j
  have hl := (List.getElem?_eq_some_iff.mp h).1
  have hl' : k < (mk_ws lo hi cA ad μ).length := by unfold mk_ws; rw [List.length_map]; exact hl
  by_cases hj : j = k
  · subst hj
    rw [List.getElem?_set_self hl', mk_ws_at h, he]
  · rw [List.getElem?_set_ne (Ne.symm hj)]
    unfold mk_ws
    rw [List.getElem?_map, List.getElem?_map]
    cases hq : (mk_cells lo hi)[j]? with
    | none => rfl
    | some q =>
      have hne : q.1 ≠ s ∨ q.2 ≠ i := by
        by_cases a : q.1 = s
        · by_cases b : q.2 = i
          · exfalso
            have e1 : q = (s, i) := Prod.ext a b
            rw [e1] at hq
            exact hj ((List.getElem?_inj (List.getElem?_eq_some_iff.mp hq).1 hn).mp (hq.trans h.symm))
          · exact Or.inr b
        · exact Or.inl a
      simp only [Option.map_some]
      rw [ho q.1 q.2 hne]
/-- what stays when one place changes -/
theorem mk_en_off {cA : Nat → ClassId} {ad : mk_AD} {μ : mj_M} {s i k : Nat} {x : Int} {s' i' : Nat} (h : s' ≠ s ∨ i' ≠ i) : mk_en cA ad (mj_up μ s i k x) s' i' = mk_en cA ad μ s' i' := by
  have hm : ∀ j, mj_up μ s i k x s' i' j = μ s' i' j := by
    intro j
    unfold mj_up
    rw [if_neg]
    rintro ⟨a, -, b⟩
    rcases h with h | h
    · exact h a
    · exact h b
  have hf : ∀ (sl : List (Option (Nat × Nat))) (j : Nat), mk_fs ad (mj_up μ s i k x) s' i' j sl = mk_fs ad μ s' i' j sl := by
    intro sl
    induction sl with
    | nil => intro j; rfl
    | cons a r ih =>
      intro j
      cases a with
      | none => show _ :: _ = _ :: _; rw [hm, ih]
      | some q => show _ :: _ = _ :: _; rw [ih]
  unfold mk_en
  simp only [hf, hm]
def mk_ov (ad : mk_AD) (μ : mj_M) (s i k : Nat) : Option (Nat × Nat) → Value
  | none => .int (Int32.ofInt (μ s i k))
  | some (t, d) => .ref (ad t (i + d))
theorem mk_fs_at {ad : mk_AD} {μ : mj_M} {s i : Nat} : ∀ (sl : List (Option (Nat × Nat))) (k j : Nat) (o : Option (Nat × Nat)), mj_nth sl k = some o →
    (mk_fs ad μ s i j sl)[k]? = some (mk_ov ad μ s i (j + k) o) := by
  intro sl
  induction sl with
  | nil => intro k j o h; cases k <;> cases h
  | cons a r ih =>
    intro k j o h
    cases k with
    | zero =>
      cases h
      cases a with
      | none => rfl
      | some q => rfl
    | succ k =>
      have h2 := ih k (j + 1) o h
      cases a with
      | none =>
        show (_ :: mk_fs ad μ s i (j + 1) r)[k + 1]? = _
        rw [List.getElem?_cons_succ, h2, show j + 1 + k = j + (k + 1) by omega]
      | some q =>
        show (_ :: mk_fs ad μ s i (j + 1) r)[k + 1]? = _
        rw [List.getElem?_cons_succ, h2, show j + 1 + k = j + (k + 1) by omega]
theorem mk_fs_up {ad : mk_AD} {μ : mj_M} {s i : Nat} {x : Int} : ∀ (sl : List (Option (Nat × Nat))) (k j : Nat), mj_nth sl k = some none →
    (mk_fs ad μ s i j sl).set k (.int (Int32.ofInt x)) = mk_fs ad (mj_up μ s i (j + k) x) s i j sl := by
  have low : ∀ (sl : List (Option (Nat × Nat))) (k j : Nat), k < j → mk_fs ad (mj_up μ s i k x) s i j sl = mk_fs ad μ s i j sl := by
    intro sl
    induction sl with
    | nil => intro k j _; rfl
    | cons a r ih =>
      intro k j hj
      have e : mj_up μ s i k x s i j = μ s i j := by
        unfold mj_up
        rw [if_neg]
        rintro ⟨-, q, -⟩
        omega
      cases a with
      | none => show _ :: _ = _ :: _; rw [e, ih k (j + 1) (by omega)]
      | some q => show _ :: _ = _ :: _; rw [ih k (j + 1) (by omega)]
  intro sl
  induction sl with
  | nil => intro k j h; cases k <;> cases h
  | cons a r ih =>
    intro k j h
    cases k with
    | zero =>
      cases h
      show _ :: _ = _ :: _
      rw [low r (j + 0) (j + 1) (by omega)]
      congr 2
      unfold mj_up
      rw [if_pos ⟨rfl, rfl, rfl⟩]
    | succ k =>
      have h2 := ih k (j + 1) h
      rw [show j + 1 + k = j + (k + 1) by omega] at h2
      cases a with
      | none =>
        show _ :: _ = _ :: _
        rw [h2]
        congr 2
        unfold mj_up
        rw [if_neg]
        rintro ⟨-, q, -⟩
        omega
      | some q =>
        show _ :: _ = _ :: _
        rw [h2]
theorem mk_fs_len {ad : mk_AD} {μ : mj_M} {s i : Nat} : ∀ (sl : List (Option (Nat × Nat))) (j : Nat), (mk_fs ad μ s i j sl).length = sl.length := by
  intro sl
  induction sl with
  | nil => intro j; rfl
  | cons a r ih =>
    intro j
    cases a with
    | none => show _ + 1 = _ + 1; rw [ih]
    | some q => show _ + 1 = _ + 1; rw [ih]
theorem mj_nth_lt {α : Type} : ∀ (l : List α) (k : Nat) (x : α), mj_nth l k = some x → k < l.length
  | [], k, x, h => by cases k <;> cases h
  | _ :: _, 0, _, _ => Nat.succ_pos _
  | _ :: l, k + 1, x, h => Nat.succ_lt_succ (mj_nth_lt l k x h)
theorem mj_nth_eq {α : Type} : ∀ (l : List α) (k : Nat), mj_nth l k = l[k]?
  | [], k => by cases k <;> rfl
  | _ :: _, 0 => rfl
  | _ :: l, k + 1 => by rw [List.getElem?_cons_succ]; exact mj_nth_eq l k
/-- values that stand for something -/
def mk_vr (lo hi s i : Nat) : Prop := (lo ≤ s ∧ s < hi ∧ i < mk_cnt s) ∨ (s = 63 ∧ i = 0) ∨ (s = 64 ∧ i = 0)
def mk_vv (lo hi : Nat) : mj_V → Prop
  | .inl x => mj_n32 x
  | .inr (.inl x) => mj_n64 x
  | .inr (.inr (s, i)) => mk_vr lo hi s i
def mk_vm (μ : mj_M) : Prop := ∀ s i k, mj_n64 (μ s i k) ∧ ((mj_srt mk_LY s).1 ≠ 2 → mj_n32 (μ s i k))
theorem mk_vm_up {μ : mj_M} {s i k : Nat} {x : Int} (h : mk_vm μ) (h1 : mj_n64 x) (h2 : (mj_srt mk_LY s).1 ≠ 2 → mj_n32 x) : mk_vm (mj_up μ s i k x) := by
  intro s' i' k'
  unfold mj_up
  by_cases q : s' = s ∧ k' = k ∧ i' = i
  · rw [if_pos q]
    exact ⟨h1, by rw [q.1]; exact h2⟩
  · rw [if_neg q]
    exact h s' i' k'
def mk_closed (lo hi : Nat) : Bool := (List.range' lo (hi - lo)).all fun s => match mj_srt mk_LY s with
  | (0, _, c, sl) => sl.all fun o => match o with
    | none => true
    | some (t, d) => Nat.ble lo t && Nat.blt t hi && Nat.ble (c + d) (mk_cnt t)
  | (3, n, _, [some (t, d)]) => Nat.ble lo t && Nat.blt t hi && Nat.ble (n + d) (mk_cnt t)
  | (1, _, _, _) => true
  | (2, _, _, _) => true
  | _ => false
theorem mk_closed_C : mk_closed 0 33 = true := by decide +kernel
theorem mk_closed_R : mk_closed 33 63 = true := by decide +kernel
theorem mk_closed_at {lo hi s : Nat} (h : mk_closed lo hi = true) (h1 : lo ≤ s) (h2 : s < hi) : (mj_srt mk_LY s).1 ≠ 4 ∧ (∀ ci c sl k t d, mj_srt mk_LY s = (0, ci, c, sl) → mj_nth sl k = some (some (t, d)) → lo ≤ t ∧ t < hi ∧ c + d ≤ mk_cnt t) ∧ (∀ n c t d, mj_srt mk_LY s = (3, n, c, [some (t, d)]) → lo ≤ t ∧ t < hi ∧ n + d ≤ mk_cnt t) := by
  have hs := List.all_eq_true.mp h s (List.mem_range'.mpr ⟨s - lo, by omega, by omega⟩)
  refine ⟨fun q => ?_, fun ci c sl k t d q hk => ?_, fun n c t d q => ?_⟩
  · generalize mj_srt mk_LY s = v at q hs
    obtain ⟨k, n, c, sl⟩ := v
    change k = 4 at q
    subst q
    simp at hs
  · rw [q] at hs
    rw [mj_nth_eq] at hk
    have := List.all_eq_true.mp hs _ (List.mem_of_getElem? hk)
    simp only [Bool.and_eq_true, Nat.ble_eq, Nat.blt_eq] at this
    exact ⟨this.1.1, this.1.2, this.2⟩
  · rw [q] at hs
    simp only [Bool.and_eq_true, Nat.ble_eq, Nat.blt_eq] at hs
    exact ⟨hs.1.1, hs.1.2, hs.2⟩
