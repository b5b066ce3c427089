/-! two worlds side by side -/
theorem lw_sL {D : va_G} {cl : List vw_C} {X Y : va_W} {H : Heap} (h : va_P D cl (X ++ Y) H) : va_P D cl X H := fun k q g => h k q (by rw [List.getElem?_append_left (List.getElem?_eq_some_iff.mp g).1]; exact g)
theorem lw_sR {D : va_G} {cl : List vw_C} {X Y : va_W} {H : Heap} (h : va_P D cl (X ++ Y) H) : va_P D cl Y H := fun k q g => h (X.length + k) q (by rw [List.getElem?_append_right (Nat.le_add_right _ _), Nat.add_sub_cancel_left]; exact g)
theorem lw_at1 {X Y : va_W} {k : Nat} {q : Nat × va_E} (g : X[k]? = some q) : (X ++ Y)[k]? = some q := by rw [List.getElem?_append_left (List.getElem?_eq_some_iff.mp g).1]; exact g
theorem lw_at2 {X Y : va_W} {k : Nat} {q : Nat × va_E} (g : Y[k]? = some q) : (X ++ Y)[X.length + k]? = some q := by rw [List.getElem?_append_right (Nat.le_add_right _ _), Nat.add_sub_cancel_left]; exact g
theorem lw_dL {A : Nat → Prop} {X Y : va_W} (h : va_D A (X ++ Y)) : va_D A X := ⟨fun i j y z hi hj e => h.1 i j y z (lw_at1 hi) (lw_at1 hj) e, fun k q g => h.2 k q (lw_at1 g)⟩
theorem lw_dR {A : Nat → Prop} {X Y : va_W} (h : va_D A (X ++ Y)) : va_D A Y := ⟨fun i j y z hi hj e => by
  have := h.1 _ _ y z (lw_at2 hi) (lw_at2 hj) e
  omega, fun k q g => h.2 _ q (lw_at2 g)⟩
theorem lw_swap {A : Nat → Prop} {X Y : va_W} (h : va_D A (X ++ Y)) : va_D A (Y ++ X) := by
  have key : ∀ (i : Nat) (y : Nat × va_E), (Y ++ X)[i]? = some y → (i < Y.length ∧ Y[i]? = some y) ∨ (Y.length ≤ i ∧ X[i - Y.length]? = some y) := by
    intro i y hi
    by_cases g : i < Y.length
    · rw [List.getElem?_append_left g] at hi; exact Or.inl ⟨g, hi⟩
    · rw [List.getElem?_append_right (by omega)] at hi; exact Or.inr ⟨by omega, hi⟩
  refine ⟨fun i j y z hi hj e => ?_, fun k q g => ?_⟩
  · rcases key i y hi with ⟨a1, a2⟩ | ⟨a1, a2⟩ <;> rcases key j z hj with ⟨b1, b2⟩ | ⟨b1, b2⟩
    · have := h.1 _ _ y z (lw_at2 a2) (lw_at2 b2) e; omega
    · have := h.1 _ _ y z (lw_at2 a2) (lw_at1 b2) e
      have := (List.getElem?_eq_some_iff.mp b2).1; omega
    · have := h.1 _ _ y z (lw_at1 a2) (lw_at2 b2) e
      have := (List.getElem?_eq_some_iff.mp a2).1; omega
    · have := h.1 _ _ y z (lw_at1 a2) (lw_at1 b2) e; omega
  · rcases key k q g with ⟨-, a2⟩ | ⟨-, a2⟩
    · exact h.2 _ q (lw_at2 a2)
    · exact h.2 _ q (lw_at1 a2)
/-- what a call on the one world leaves: the other as it was -/
theorem lw_new {D : va_G} {A A1 : Nat → Prop} {X X1 Y : va_W} {H H1 : Heap} (hP : va_P D vwCl (X ++ Y) H) (hD : va_D A (X ++ Y)) (hk : ∀ x : Nat, x < H.size → ¬ A1 x → H1[x]? = H[x]?) (h1 : ∀ x, A1 x → (∃ (k : Nat) (e : va_E), X[k]? = some (x, e)) ∨ H.size ≤ x) (hA : ∀ x, A1 x → A x) (hP1 : va_P D vwCl X1 H1) (hD1 : va_D A1 X1) : va_P D vwCl (X1 ++ Y) H1 ∧ va_D A (X1 ++ Y) := by
  have key : ∀ (k : Nat) (y : Nat × va_E), Y[k]? = some y → y.1 < H.size ∧ ¬ A1 y.1 := by
    intro k y hy
    have h3 := (hP _ y (lw_at2 hy)).lt
    refine ⟨h3, fun hA1 => ?_⟩
    rcases h1 _ hA1 with ⟨k', e, g⟩ | g
    · have := hD.1 _ _ (y.1, e) y (lw_at1 g) (lw_at2 hy) rfl
      have := (List.getElem?_eq_some_iff.mp g).1
      omega
    · omega
  have kY : va_P D vwCl Y H1 := (lw_sR hP).kept fun k y hy => hk y.1 (key k y hy).1 (key k y hy).2
  have dY := lw_dR hD
  refine ⟨hP1.app kY, fun i j y z hi hj hyz => ?_, fun k y hy => ?_⟩
  · by_cases gi : i < X1.length <;> by_cases gj : j < X1.length
    · rw [List.getElem?_append_left gi] at hi
      rw [List.getElem?_append_left gj] at hj
      exact hD1.1 i j y z hi hj hyz
    · rw [List.getElem?_append_left gi] at hi
      rw [List.getElem?_append_right (by omega)] at hj
      exact absurd (by rw [← hyz]; exact hD1.2 _ y hi) (key _ z hj).2
    · rw [List.getElem?_append_right (by omega)] at hi
      rw [List.getElem?_append_left gj] at hj
      exact absurd (by rw [hyz]; exact hD1.2 _ z hj) (key _ y hi).2
    · rw [List.getElem?_append_right (by omega)] at hi
      rw [List.getElem?_append_right (by omega)] at hj
      have := dY.1 _ _ y z hi hj hyz
      omega
  · by_cases g : k < X1.length
    · rw [List.getElem?_append_left g] at hy
      exact hA _ (hD1.2 _ y hy)
    · rw [List.getElem?_append_right (by omega)] at hy
      exact dY.2 _ y hy
theorem lw_mkA {lo hi sz : Nat} {cA : Nat → ClassId} {ad : mk_AD} {μ : mj_M} (x : Nat) (h : mk_A lo hi ad sz x) : (∃ (k : Nat) (e : va_E), (mk_ws lo hi cA ad μ)[k]? = some (x, e)) ∨ sz ≤ x := by
  rcases h with ⟨c, hc, rfl⟩ | h
  · obtain ⟨k, hk⟩ := List.getElem?_of_mem hc
    exact Or.inl ⟨k, _, mk_ws_at (s := c.1) (i := c.2) hk⟩
  · exact Or.inr h
/-! the script's ints pushed -/
def lwArg (bytes : ByteArray) : Nat → Nat → Nat → Option Nat
  | pc, _, 0 => some pc
  | pc, j, n + 1 => match decode bytes pc with
    | .ok (.aload_n 0, 1) => match decode bytes (pc + 1) with
      | .ok (.iload_n 3, 1) => match kzRd bytes (pc + 2) with
        | some (x, p2) => match decode bytes p2 with
          | .ok (.iadd, 1) => match decode bytes (p2 + 1) with
            | .ok (.iaload, 1) => if x = (j : Int) then lwArg bytes (p2 + 2) (j + 1) n else none
            | _ => none
          | _ => none
        | none => none
      | _ => none
    | _ => none
def lwVs (xs : Nat → Int32) (i : Nat) : Nat → Nat → List Value
  | _, 0 => []
  | j, n + 1 => .int (xs (i + j)) :: lwVs xs i (j + 1) n
theorem lwVs_A {xs : Nat → Int32} {i : Nat} {ad : mk_AD} : ∀ (n j : Nat), (lwA (fun t => (xs (i + 1 + t)).toInt) j n).map (mk_ev ad) = lwVs xs i (j + 1) n
  | 0, _ => rfl
  | n + 1, j => by
    show Value.int (Int32.ofInt (xs (i + 1 + j)).toInt) :: (lwA _ (j + 1) n).map (mk_ev ad) = Value.int (xs (i + (j + 1))) :: lwVs xs i (j + 1 + 1) n
    rw [Int32.ofInt_toInt, lwVs_A n (j + 1), show i + 1 + j = i + (j + 1) by omega]
theorem lwVs_len {xs : Nat → Int32} {i : Nat} : ∀ (n j : Nat), (lwVs xs i j n).length = n
  | 0, _ => rfl
  | n + 1, j => by
    show (lwVs xs i (j + 1) n).length + 1 = n + 1
    rw [lwVs_len n (j + 1)]
section LW
variable {p : Program} {l : Launch} {e : Env} {R : Room} {s : State} {m : MethodId} {args : Array Value} {below : List Frame} {meth : Method} {c : Code} {Q : State → Prop} {H : Heap} {locs : List Loc} {cells slots pc : Nat} {ls : Array Slot} {st : List Value} {bytes : ByteArray}
theorem lw_k {x : Int} {pc2 : Nat} (hx : p.tables.exec = Jvm.exec) (hb : c.code = bytes) (h : kzRd bytes pc = some (x, pc2)) (k : W p l e R s m args below meth c H locs cells slots Q (F0 m pc2 ls (.int (Int32.ofInt x) :: st))) : W p l e R s m args below meth c H locs cells slots Q (F0 m pc ls st) := by
  unfold kzRd at h
  split at h
  · rename_i x' hd; cases h; exact lv_iconst hx hb hd rfl k
  · rename_i x' hd
    split at h
    · rename_i hv; cases h; exact lv_bipush hx hb hd (mk_b8 hv) k
    · cases h
  · rename_i x' hd
    split at h
    · rename_i hv; cases h; exact lv_sipush hx hb hd (mk_b16 hv) k
    · cases h
  · cases h
theorem lw_args {b L i qc qr : Nat} {xs : Nat → Int32} {A : Nat → Prop} (hx : p.tables.exec = Jvm.exec) (hb : c.code = bytes) (hX : va_X b L xs s s.heap) (hbl : b < s.heap.size) (hbA : ¬ A b) (hS : va_S A s.heap H locs) (hL : L ≤ 3584) (hl : lv_has ls 4 [(3, .int (nI i)), (2, .ref qr), (1, .ref qc), (0, .ref b)]) : ∀ (n j pc p1 : Nat) (st : List Value), lwArg bytes pc j n = some p1 → i + j + n ≤ L →
    W p l e R s m args below meth c H locs cells slots Q (F0 m p1 ls ((lwVs xs i j n).reverse ++ st)) → W p l e R s m args below meth c H locs cells slots Q (F0 m pc ls st) := by
  intro n
  induction n with
  | zero => intro j pc p1 st h _ k; cases h; exact k
  | succ n ih =>
    intro j pc p1 st h hn k
    unfold lwArg at h
    split at h
    · rename_i d0
      split at h
      · rename_i d1
        split at h
        · rename_i x p2 r1
          split at h
          · rename_i d2
            split at h
            · rename_i d3
              split at h
              · rename_i hxj
                subst hxj
                refine lv_aload_n hx hb d0 rfl (lv_at hl 3 rfl) (lv_iload_n hx hb d1 rfl (lv_at hl 0 rfl) (lw_k hx hb r1 (lv_iadd hx hb d2 ?_)))
                have e1 : nI i + Int32.ofInt (j : Int) = nI (i + j) := by
                  rw [mj_I_N]
                  exact (Int32.ofNat_add i j).symm
                rw [e1]
                refine va_sld hx hb hX hbl hbA hS (vp_in_nI (by omega) (by omega)) d3 ?_
                rw [nI_clamp (by omega)]
                refine ih (j + 1) _ p1 _ h (by omega) ?_
                have e2 : (lwVs xs i j (n + 1)).reverse ++ st = (lwVs xs i (j + 1) n).reverse ++ .int (xs (i + j)) :: st := by
                  show (Value.int (xs (i + j)) :: lwVs xs i (j + 1) n).reverse ++ st = _
                  rw [List.reverse_cons, List.append_assoc]
                  rfl
                rw [← e2]
                exact k
              · cases h
            · cases h
          · cases h
        · cases h
      · cases h
    · cases h
end LW
