/-! the worlds inside a constructor: cells in the order in which they are made, their addresses a function nu -/
abbrev kzU : Type := Int ⊕ Option Nat
abbrev kzC : Type := Nat × Nat × List kzU
def kzV (ν : Nat → Nat) : kzU → Value
  | .inl x => .int (Int32.ofInt x)
  | .inr none => .null
  | .inr (some k) => .ref (ν k)
def kzI (vs : List kzU) (j : Nat) : Int := match vs[j]? with
  | some (.inl x) => x
  | _ => 0
def kzQ (ν : Nat → Nat) (vs : List kzU) (j : Nat) : Option Nat := match vs[j]? with
  | some (.inr (some k)) => some (ν k)
  | _ => none
def kzE (τ : Nat → ClassId) (ν : Nat → Nat) : kzC → va_E
  | (0, ci, vs) => .inr (ci, vs.map (kzV ν))
  | (1, n, vs) => .inl (τ 0, n, .inl (fun j => Int32.ofInt (kzI vs j)))
  | (2, n, _) => .inl (τ 1, n, .inr (.inl (fun _ => 0)))
  | (k + 3, n, vs) => .inl (τ (k + 2), n, .inr (.inr (.inr (.inr (kzQ ν vs)))))
def kzW (τ : Nat → ClassId) (ν : Nat → Nat) (cs : List kzC) : va_W := cs.mapIdx fun k e => (ν k, kzE τ ν e)
def kzc (n : Nat) : kzU → Bool
  | .inr (some k) => Nat.blt k n
  | _ => true
/-- all that the cells refer to lies below n -/
def kzOK (n : Nat) (cs : List kzC) : Bool := cs.all fun e => e.2.2.all (kzc n)
def kzS (n : Nat) : kzU → kzU
  | .inr (some k) => .inr (some (k + n))
  | v => v
def kzsh (n : Nat) (e : kzC) : kzC := (e.1, e.2.1, e.2.2.map (kzS n))
theorem kzV_cong {n : Nat} {ν ν' : Nat → Nat} (h : ∀ k, k < n → ν k = ν' k) {v : kzU} (hv : kzc n v = true) : kzV ν v = kzV ν' v := by
  match v, hv with
  | .inl _, _ => rfl
  | .inr none, _ => rfl
  | .inr (some k), hv => show Value.ref (ν k) = Value.ref (ν' k); rw [h k (Nat.blt_eq.mp hv)]
theorem kzV_map {n : Nat} {ν ν' : Nat → Nat} (h : ∀ k, k < n → ν k = ν' k) {vs : List kzU} (hv : vs.all (kzc n) = true) : vs.map (kzV ν) = vs.map (kzV ν') :=
  List.map_congr_left fun v hm => kzV_cong h (List.all_eq_true.mp hv v hm)
theorem kzE_cong {n : Nat} {τ : Nat → ClassId} {ν ν' : Nat → Nat} (h : ∀ k, k < n → ν k = ν' k) {e : kzC} (he : e.2.2.all (kzc n) = true) : kzE τ ν e = kzE τ ν' e := by
  obtain ⟨k, m, vs⟩ := e
  match k with
  | 0 => show Sum.inr (m, vs.map (kzV ν)) = Sum.inr (m, vs.map (kzV ν')); rw [kzV_map h he]
  | 1 => rfl
  | 2 => rfl
  | k + 3 =>
    have : kzQ ν vs = kzQ ν' vs := by
      funext j
      unfold kzQ
      cases hj : vs[j]? with
      | none => rfl
      | some v =>
        have hv := List.all_eq_true.mp he v (List.mem_of_getElem? hj)
        match v, hv with
        | .inl _, _ => rfl
        | .inr none, _ => rfl
        | .inr (some i), hv => show some (ν i) = some (ν' i); rw [h i (Nat.blt_eq.mp hv)]
    show Sum.inl (τ (k + 2), m, _) = Sum.inl (τ (k + 2), m, _)
    rw [this]
theorem kzV_sh {n : Nat} {ν ν' : Nat → Nat} (h : ∀ k, ν' (k + n) = ν k) (v : kzU) : kzV ν' (kzS n v) = kzV ν v := by
  match v with
  | .inl _ => rfl
  | .inr none => rfl
  | .inr (some k) => show Value.ref (ν' (k + n)) = Value.ref (ν k); rw [h k]
theorem kzI_sh (n : Nat) (vs : List kzU) (j : Nat) : kzI (vs.map (kzS n)) j = kzI vs j := by
  unfold kzI
  rw [List.getElem?_map]
  cases vs[j]? with
  | none => rfl
  | some v => match v with
    | .inl _ => rfl
    | .inr none => rfl
    | .inr (some _) => rfl
theorem kzQ_sh {n : Nat} {ν ν' : Nat → Nat} (h : ∀ k, ν' (k + n) = ν k) (vs : List kzU) : kzQ ν' (vs.map (kzS n)) = kzQ ν vs := by
  funext j
  unfold kzQ
  rw [List.getElem?_map]
  cases vs[j]? with
  | none => rfl
  | some v => match v with
    | .inl _ => rfl
    | .inr none => rfl
    | .inr (some k) => show some (ν' (k + n)) = some (ν k); rw [h k]
theorem kzE_sh {n : Nat} {τ : Nat → ClassId} {ν ν' : Nat → Nat} (h : ∀ k, ν' (k + n) = ν k) (e : kzC) : kzE τ ν' (kzsh n e) = kzE τ ν e := by
  obtain ⟨k, m, vs⟩ := e
  match k with
  | 0 =>
    show Sum.inr (m, (vs.map (kzS n)).map (kzV ν')) = Sum.inr (m, vs.map (kzV ν))
    have e1 : (vs.map (kzS n)).map (kzV ν') = vs.map (kzV ν) := by
      rw [List.map_map]
      exact List.map_congr_left fun v _ => kzV_sh h v
    rw [e1]
  | 1 =>
    show Sum.inl (τ 0, m, Sum.inl (fun j => Int32.ofInt (kzI (vs.map (kzS n)) j))) = _
    rw [funext fun j => congrArg Int32.ofInt (kzI_sh n vs j)]
    rfl
  | 2 => rfl
  | k + 3 =>
    show Sum.inl (τ (k + 2), m, Sum.inr (Sum.inr (Sum.inr (Sum.inr (kzQ ν' (vs.map (kzS n))))))) = _
    rw [kzQ_sh h]
    rfl
theorem kzW_at {τ : Nat → ClassId} {ν : Nat → Nat} {cs : List kzC} {k : Nat} : (kzW τ ν cs)[k]? = (cs[k]?).map (fun e => (ν k, kzE τ ν e)) := by
  unfold kzW
  rw [List.getElem?_mapIdx]
theorem kzW_get {τ : Nat → ClassId} {ν : Nat → Nat} {cs : List kzC} {k : Nat} {e : kzC} (h : cs[k]? = some e) : (kzW τ ν cs)[k]? = some (ν k, kzE τ ν e) := by
  rw [kzW_at, h]
  rfl
theorem kzW_len {τ : Nat → ClassId} {ν : Nat → Nat} {cs : List kzC} : (kzW τ ν cs).length = cs.length := by
  unfold kzW
  rw [List.length_mapIdx]
theorem kzW_set {τ : Nat → ClassId} {ν : Nat → Nat} {cs : List kzC} {k : Nat} {e : kzC} : (kzW τ ν cs).set k (ν k, kzE τ ν e) = kzW τ ν (cs.set k e) := by
  apply List.ext_getElem?
  intro i
  rw [kzW_at, List.getElem?_set, List.getElem?_set, kzW_len]
  by_cases h : k = i
  · subst h
    rw [if_pos rfl, if_pos rfl]
    split
    · rfl
    · rfl
  · rw [if_neg h, if_neg h, kzW_at]
def kzN (ν : Nat → Nat) (n q : Nat) : Nat → Nat := fun k => if k = n then q else ν k
theorem kzN_lt {ν : Nat → Nat} {n q k : Nat} (h : k < n) : ν k = kzN ν n q k := by
  unfold kzN
  rw [if_neg (Nat.ne_of_lt h)]
theorem kzN_eq {ν : Nat → Nat} {n q : Nat} : kzN ν n q n = q := by
  unfold kzN
  rw [if_pos rfl]
theorem kzW_cong {τ : Nat → ClassId} {ν ν' : Nat → Nat} {cs : List kzC} (h : ∀ k, k < cs.length → ν k = ν' k) (hc : kzOK cs.length cs = true) : kzW τ ν cs = kzW τ ν' cs := by
  apply List.ext_getElem?
  intro i
  rw [kzW_at, kzW_at]
  cases hi : cs[i]? with
  | none => rfl
  | some e =>
    show some (ν i, kzE τ ν e) = some (ν' i, kzE τ ν' e)
    rw [h i (List.getElem?_eq_some_iff.mp hi).1, kzE_cong h (List.all_eq_true.mp hc e (List.mem_of_getElem? hi))]
/-- one cell more -/
theorem kzW_push {τ : Nat → ClassId} {ν : Nat → Nat} {cs : List kzC} {q : Nat} {e : kzC} (hc : kzOK cs.length cs = true) (he : e.2.2.all (kzc cs.length) = true) : kzW τ (kzN ν cs.length q) (cs ++ [e]) = kzW τ ν cs ++ [(q, kzE τ ν e)] := by
  have h : ∀ k, k < cs.length → ν k = kzN ν cs.length q k := fun k hk => kzN_lt hk
  rw [kzW_cong (τ := τ) h hc, kzE_cong (τ := τ) h he]
  apply List.ext_getElem?
  intro i
  rw [kzW_at]
  by_cases hi : i < cs.length
  · rw [List.getElem?_append_left hi, List.getElem?_append_left (by rw [kzW_len]; exact hi), kzW_at]
  · by_cases hj : i = cs.length
    · subst hj
      rw [List.getElem?_append_right (Nat.le_refl _), List.getElem?_append_right (by rw [kzW_len]; exact Nat.le_refl _), kzW_len, Nat.sub_self]
      show some (kzN ν cs.length q cs.length, _) = some (q, _)
      rw [kzN_eq]
    · rw [List.getElem?_eq_none (by rw [List.length_append]; show cs.length + 1 ≤ i; omega), List.getElem?_eq_none (by rw [List.length_append, kzW_len]; show cs.length + 1 ≤ i; omega)]
      rfl
/-- the cells of a callee behind ours -/
def kzJ (ν ν2 : Nat → Nat) (n : Nat) : Nat → Nat := fun k => if k < n then ν k else ν2 (k - n)
theorem kzJ_lt {ν ν2 : Nat → Nat} {n k : Nat} (h : k < n) : ν k = kzJ ν ν2 n k := by
  unfold kzJ
  rw [if_pos h]
theorem kzJ_ge {ν ν2 : Nat → Nat} {n : Nat} (k : Nat) : kzJ ν ν2 n (k + n) = ν2 k := by
  unfold kzJ
  rw [if_neg (by omega), Nat.add_sub_cancel]
theorem kzW_join {τ : Nat → ClassId} {ν ν2 : Nat → Nat} {cs out : List kzC} (hc : kzOK cs.length cs = true) : kzW τ (kzJ ν ν2 cs.length) (cs ++ out.map (kzsh cs.length)) = kzW τ ν cs ++ kzW τ ν2 out := by
  have h : ∀ k, k < cs.length → ν k = kzJ ν ν2 cs.length k := fun k hk => kzJ_lt hk
  rw [kzW_cong (τ := τ) h hc]
  apply List.ext_getElem?
  intro i
  rw [kzW_at]
  by_cases hi : i < cs.length
  · rw [List.getElem?_append_left hi, List.getElem?_append_left (by rw [kzW_len]; exact hi), kzW_at]
  · rw [List.getElem?_append_right (by omega), List.getElem?_append_right (by rw [kzW_len]; omega), kzW_len, kzW_at, List.getElem?_map]
    cases out[i - cs.length]? with
    | none => rfl
    | some e =>
      show some (kzJ ν ν2 cs.length i, kzE τ (kzJ ν ν2 cs.length) (kzsh cs.length e)) = some (ν2 (i - cs.length), kzE τ ν2 e)
      rw [kzE_sh (fun k => kzJ_ge k), ← kzJ_ge (ν := ν) (ν2 := ν2) (n := cs.length) (i - cs.length), show i - cs.length + cs.length = i by omega]
theorem kz_PD {D : va_G} {A A1 : Nat → Prop} {X w1 : va_W} {q : Nat} {e : va_E} {H H1 : Heap} (hP : va_P D vwCl (X ++ [(q, e)]) H) (hD : va_D A (X ++ [(q, e)])) (hk : ∀ x : Nat, x < H.size → ¬ A1 x → H1[x]? = H[x]?) (h1 : ∀ x, A1 x → x = q ∨ H.size ≤ x) (hA : ∀ x, A1 x → A x) (hP1 : va_P D vwCl w1 H1) (hD1 : va_D A1 w1) : va_P D vwCl (X ++ w1) H1 ∧ va_D A (X ++ w1) := by
  have key : ∀ (k : Nat) (y : Nat × va_E), X[k]? = some y → (X ++ [(q, e)])[k]? = some y ∧ y.1 < H.size ∧ ¬ A1 y.1 := by
    intro k y hy
    have hl : k < X.length := (List.getElem?_eq_some_iff.mp hy).1
    have h2 : (X ++ [(q, e)])[k]? = some y := by rw [List.getElem?_append_left hl]; exact hy
    have h3 := (hP k y h2).lt
    refine ⟨h2, h3, fun hA1 => ?_⟩
    rcases h1 _ hA1 with g | g
    · have h4 : (X ++ [(q, e)])[X.length]? = some (q, e) := by rw [List.getElem?_append_right (Nat.le_refl _), Nat.sub_self]; rfl
      have := hD.1 k X.length y (q, e) h2 h4 g
      omega
    · omega
  have kX : va_P D vwCl X H1 := by
    have hX : va_P D vwCl X H := fun k y hy => hP k y (key k y hy).1
    exact hX.kept fun k y hy => hk y.1 (key k y hy).2.1 (key k y hy).2.2
  refine ⟨kX.app hP1, fun i j y z hi hj hyz => ?_, fun k y hy => ?_⟩
  · by_cases gi : i < X.length <;> by_cases gj : j < X.length
    · rw [List.getElem?_append_left gi] at hi
      rw [List.getElem?_append_left gj] at hj
      exact hD.1 i j y z (key i y hi).1 (key j z hj).1 hyz
    · rw [List.getElem?_append_left gi] at hi
      rw [List.getElem?_append_right (by omega)] at hj
      exact absurd (by rw [hyz]; exact hD1.2 _ z hj) (key i y hi).2.2
    · rw [List.getElem?_append_right (by omega)] at hi
      rw [List.getElem?_append_left gj] at hj
      exact absurd (by rw [← hyz]; exact hD1.2 _ y hi) (key j z hj).2.2
    · rw [List.getElem?_append_right (by omega)] at hi
      rw [List.getElem?_append_right (by omega)] at hj
      have := hD1.1 _ _ y z hi hj hyz
      omega
  · by_cases g : k < X.length
    · rw [List.getElem?_append_left g] at hy
      exact hD.2 k y (key k y hy).1
    · rw [List.getElem?_append_right (by omega)] at hy
      exact hA _ (hD1.2 _ y hy)
