/-! from the cells as they were made to the world of a memory -/
def kzchF (off : Nat → Nat → Nat) (μ : mj_M) (s i : Nat) : Nat → List (Option (Nat × Nat)) → List kzU → Bool
  | _, [], [] => true
  | k, none :: sl, .inl x :: vs => decide (μ s i k = x) && kzchF off μ s i (k + 1) sl vs
  | k, some (t, o) :: sl, .inr (some r) :: vs => Nat.blt t 63 && Nat.beq (off t (i + o)) r && kzchF off μ s i (k + 1) sl vs
  | _, _, _ => false
def kzchk (off : Nat → Nat → Nat) (kA : Nat → Nat) (μ : mj_M) (cs : List kzC) (c : Nat × Nat) : Bool := match mj_srt mk_LY c.1, cs[off c.1 c.2]? with
  | (0, ci, _, sl), some (0, ci', vs) => Nat.beq ci ci' && Nat.blt c.1 63 && kzchF off μ c.1 c.2 0 sl vs
  | (1, n, _, _), some (1, n', vs) => Nat.beq n n' && Nat.blt c.1 63 && Nat.beq (kA c.1) 0 && (List.range n).all (fun j => decide (μ c.1 c.2 j = kzI vs j))
  | (2, n, _, _), some (2, n', _) => Nat.beq n n' && Nat.blt c.1 63 && Nat.beq (kA c.1) 1 && (List.range n).all (fun j => decide (μ c.1 c.2 j = 0))
  | (3, n, _, [some (t, o)]), some (k + 3, n', vs) => Nat.beq n n' && Nat.blt c.1 63 && Nat.beq (kA c.1) (k + 2) && Nat.blt t 63 && (List.range n).all (fun j => kzvb (vs[j]?) (.inr (some (off t (j + o)))))
  | _, _ => false
def kzad (ν : Nat → Nat) (off : Nat → Nat → Nat) (aw at_ : Nat) : mk_AD := fun s i => if s < 63 then ν (off s i) else if s = 63 then aw else at_
theorem kzad_lt {ν : Nat → Nat} {off : Nat → Nat → Nat} {aw at_ s i : Nat} (h : s < 63) : kzad ν off aw at_ s i = ν (off s i) := by
  unfold kzad
  rw [if_pos h]
theorem kzchF_eq {ν : Nat → Nat} {off : Nat → Nat → Nat} {aw at_ s i : Nat} {μ : mj_M} : ∀ (sl : List (Option (Nat × Nat))) (vs : List kzU) (k : Nat), kzchF off μ s i k sl vs = true → mk_fs (kzad ν off aw at_) μ s i k sl = vs.map (kzV ν)
  | [], [], _, _ => rfl
  | none :: sl, .inl x :: vs, k, h => by
    have h := Bool.and_eq_true_iff.mp (show (decide (μ s i k = x) && kzchF off μ s i (k + 1) sl vs) = true from h)
    show Value.int (Int32.ofInt (μ s i k)) :: mk_fs (kzad ν off aw at_) μ s i (k + 1) sl = Value.int (Int32.ofInt x) :: vs.map (kzV ν)
    rw [of_decide_eq_true h.1, kzchF_eq sl vs (k + 1) h.2]
  | some (t, o) :: sl, .inr (some r) :: vs, k, h => by
    have h : (Nat.blt t 63 && Nat.beq (off t (i + o)) r && kzchF off μ s i (k + 1) sl vs) = true := h
    simp only [Bool.and_eq_true] at h
    show Value.ref (kzad ν off aw at_ t (i + o)) :: mk_fs (kzad ν off aw at_) μ s i (k + 1) sl = Value.ref (ν r) :: vs.map (kzV ν)
    rw [kzad_lt (Nat.blt_eq.mp h.1.1), Nat.eq_of_beq_eq_true h.1.2, kzchF_eq sl vs (k + 1) h.2]
  | [], _ :: _, _, h => by cases h
  | none :: _, [], _, h => by cases h
  | some _ :: _, [], _, h => by cases h
  | none :: _, .inr _ :: _, _, h => by cases h
  | some _ :: _, .inl _ :: _, _, h => by cases h
  | some _ :: _, .inr none :: _, _, h => by cases h
theorem arrV_cong {c : ClassId} {n : Nat} {f g : Nat → Value} (h : ∀ j, j < n → f j = g j) : arrV c n f = arrV c n g := by
  unfold arrV
  congr 2
  funext j
  exact h j.val j.isLt
theorem kzchk_at {ν : Nat → Nat} {off : Nat → Nat → Nat} {kA : Nat → Nat} {τ : Nat → ClassId} {aw at_ : Nat} {μ : mj_M} {cs : List kzC} {c : Nat × Nat} {D : va_G} {H : Heap} (h : kzchk off kA μ cs c = true) : ∃ e, cs[off c.1 c.2]? = some e ∧ c.1 < 63 ∧ (va_at D vwCl (ν (off c.1 c.2), kzE τ ν e) H → va_at D vwCl (kzad ν off aw at_ c.1 c.2, mk_en (fun s => τ (kA s)) (kzad ν off aw at_) μ c.1 c.2) H) := by
  obtain ⟨s, i⟩ := c
  unfold kzchk at h
  dsimp only at h ⊢
  split at h
  · rename_i ci cn sl ci' vs e1 e2
    simp only [Bool.and_eq_true] at h
    obtain ⟨⟨h1, h2⟩, h3⟩ := h
    have h1 := Nat.eq_of_beq_eq_true h1
    have h2 := Nat.blt_eq.mp h2
    subst h1
    refine ⟨_, e2, h2, fun g => ?_⟩
    rw [kzad_lt h2]
    have : mk_en (fun s => τ (kA s)) (kzad ν off aw at_) μ s i = kzE τ ν (0, ci, vs) := by
      simp only [mk_en, e1]
      rw [kzchF_eq sl vs 0 h3]
      rfl
    rw [this]
    exact g
  · rename_i n cn sl n' vs e1 e2
    simp only [Bool.and_eq_true] at h
    obtain ⟨⟨⟨h1, h2⟩, h3⟩, h4⟩ := h
    have h1 := Nat.eq_of_beq_eq_true h1
    have h2 := Nat.blt_eq.mp h2
    have h3 := Nat.eq_of_beq_eq_true h3
    subst h1
    refine ⟨_, e2, h2, fun g => ?_⟩
    rw [kzad_lt h2]
    have e3 : mk_en (fun s => τ (kA s)) (kzad ν off aw at_) μ s i = .inl (τ (kA s), n, .inl (fun j => Int32.ofInt (μ s i j))) := by
      simp only [mk_en, e1]
    rw [e3, h3]
    have g : H[ν (off s i)]? = some (arrV (τ 0) n (fun j => .int (Int32.ofInt (kzI vs j)))) := g
    show H[ν (off s i)]? = some (arrV (τ 0) n (fun j => .int (Int32.ofInt (μ s i j))))
    rw [g]
    congr 1
    refine arrV_cong fun j hj => ?_
    have := of_decide_eq_true (List.all_eq_true.mp h4 j (List.mem_range.mpr hj))
    show Value.int (Int32.ofInt (kzI vs j)) = Value.int (Int32.ofInt (μ s i j))
    rw [this]
  · rename_i n cn sl n' vs e1 e2
    simp only [Bool.and_eq_true] at h
    obtain ⟨⟨⟨h1, h2⟩, h3⟩, h4⟩ := h
    have h1 := Nat.eq_of_beq_eq_true h1
    have h2 := Nat.blt_eq.mp h2
    have h3 := Nat.eq_of_beq_eq_true h3
    subst h1
    refine ⟨_, e2, h2, fun g => ?_⟩
    rw [kzad_lt h2]
    have e3 : mk_en (fun s => τ (kA s)) (kzad ν off aw at_) μ s i = .inl (τ (kA s), n, .inr (.inl (fun j => Int64.ofInt (μ s i j)))) := by
      simp only [mk_en, e1]
    rw [e3, h3]
    have g : H[ν (off s i)]? = some (arrV (τ 1) n (fun _ => .long 0)) := g
    show H[ν (off s i)]? = some (arrV (τ 1) n (fun j => .long (Int64.ofInt (μ s i j))))
    rw [g]
    congr 1
    refine arrV_cong fun j hj => ?_
    have := of_decide_eq_true (List.all_eq_true.mp h4 j (List.mem_range.mpr hj))
    show Value.long 0 = Value.long (Int64.ofInt (μ s i j))
    rw [this]
    rfl
  · rename_i n cn t o k n' vs e1 e2
    simp only [Bool.and_eq_true] at h
    obtain ⟨⟨⟨⟨h1, h2⟩, h3⟩, h5⟩, h4⟩ := h
    have h1 := Nat.eq_of_beq_eq_true h1
    have h2 := Nat.blt_eq.mp h2
    have h3 := Nat.eq_of_beq_eq_true h3
    have h5 := Nat.blt_eq.mp h5
    subst h1
    refine ⟨_, e2, h2, fun g => ?_⟩
    rw [kzad_lt h2]
    have e3 : mk_en (fun s => τ (kA s)) (kzad ν off aw at_) μ s i = .inl (τ (kA s), n, .inr (.inr (.inr (.inr (fun j => some (kzad ν off aw at_ t (j + o))))))) := by
      simp only [mk_en, e1]
    rw [e3, h3]
    have g : H[ν (off s i)]? = some (arrV (τ (k + 2)) n (fun j => va_rf (kzQ ν vs j))) := g
    show H[ν (off s i)]? = some (arrV (τ (k + 2)) n (fun j => va_rf (some (kzad ν off aw at_ t (j + o)))))
    rw [g]
    congr 1
    refine arrV_cong fun j hj => ?_
    have := kzvb_eq (List.all_eq_true.mp h4 j (List.mem_range.mpr hj))
    show va_rf (kzQ ν vs j) = _
    unfold kzQ
    rw [this, kzad_lt h5]
  · cases h
theorem kz_ws {ν : Nat → Nat} {off : Nat → Nat → Nat} {kA : Nat → Nat} {τ : Nat → ClassId} {aw at_ lo hi : Nat} {μ : mj_M} {cs : List kzC} {D : va_G} {A : Nat → Prop} {H : Heap} (hc : (mk_cells lo hi).all (kzchk off kA μ cs) = true) (hn : ((mk_cells lo hi).map (fun c => off c.1 c.2)).Nodup) (hP : va_P D vwCl (kzW τ ν cs) H) (hD : va_D A (kzW τ ν cs)) :
    va_P D vwCl (mk_ws lo hi (fun s => τ (kA s)) (kzad ν off aw at_) μ) H ∧ va_D A (mk_ws lo hi (fun s => τ (kA s)) (kzad ν off aw at_) μ) := by
  have key : ∀ (k : Nat) (y : Nat × va_E), (mk_ws lo hi (fun s => τ (kA s)) (kzad ν off aw at_) μ)[k]? = some y → ∃ c e, (mk_cells lo hi)[k]? = some c ∧ y = (kzad ν off aw at_ c.1 c.2, mk_en (fun s => τ (kA s)) (kzad ν off aw at_) μ c.1 c.2) ∧ cs[off c.1 c.2]? = some e ∧ c.1 < 63 ∧ (va_at D vwCl (ν (off c.1 c.2), kzE τ ν e) H → va_at D vwCl y H) := by
    intro k y hy
    unfold mk_ws at hy
    rw [List.getElem?_map] at hy
    cases hk : (mk_cells lo hi)[k]? with
    | none => rw [hk] at hy; cases hy
    | some c =>
      rw [hk] at hy
      cases hy
      obtain ⟨e, g1, g2, g3⟩ := kzchk_at (ν := ν) (τ := τ) (aw := aw) (at_ := at_) (D := D) (H := H) (List.all_eq_true.mp hc c (List.mem_of_getElem? hk))
      exact ⟨c, e, rfl, rfl, g1, g2, g3⟩
  refine ⟨fun k y hy => ?_, fun i j y z hyi hyj hyz => ?_, fun k y hy => ?_⟩
  · obtain ⟨c, e, -, -, h3, -, h5⟩ := key k y hy
    exact h5 (hP _ _ (kzW_get h3))
  · obtain ⟨c, e, h1, h2, h3, h4, -⟩ := key i y hyi
    obtain ⟨c', e', h1', h2', h3', h4', -⟩ := key j z hyj
    rw [h2, h2'] at hyz
    have hyz : kzad ν off aw at_ c.1 c.2 = kzad ν off aw at_ c'.1 c'.2 := hyz
    rw [kzad_lt h4, kzad_lt h4'] at hyz
    have g := hD.1 _ _ _ _ (kzW_get h3) (kzW_get h3') hyz
    have g1 : ((mk_cells lo hi).map (fun c => off c.1 c.2))[i]? = some (off c.1 c.2) := by rw [List.getElem?_map, h1]; rfl
    have g2 : ((mk_cells lo hi).map (fun c => off c.1 c.2))[j]? = some (off c'.1 c'.2) := by rw [List.getElem?_map, h1']; rfl
    rw [← g] at g2
    exact (List.getElem?_inj (List.getElem?_eq_some_iff.mp g1).1 hn).mp (g1.trans g2.symm)
  · obtain ⟨c, e, -, h2, h3, h4, -⟩ := key k y hy
    have := hD.2 _ _ (kzW_get h3)
    rw [h2]
    show A (kzad ν off aw at_ c.1 c.2)
    rw [kzad_lt h4]
    exact this
def kzkA (s : Nat) : Nat := if s = 32 ∨ s = 61 then 1 else if s = 6 then 2 else if s = 8 then 3 else if s = 18 then 4 else 0
/-- where the class's cells stand -/
def offC (s i : Nat) : Nat := match s with
  | 0 => 0
  | 1 => match i with
    | 0 => 1
    | 1 => 6
    | _ => 19
  | 6 => 11
  | 7 => 35 + i
  | 8 => 12
  | 14 => 13
  | 15 => 14
  | 16 => 15
  | 17 => 16
  | 18 => 17
  | 19 => 81 + 2 * i
  | 20 => 82 + 2 * i
  | 21 => 18
  | 31 => 33
  | 32 => 34
  | s => if s < 6 then (match i with
    | 0 => 1
    | 1 => 6
    | _ => 19) + (s - 1) else if s < 14 then 51 + 5 * i + (s - 9) else 24 + (s - 22)
/-- .. and the reference's -/
def offR (s _ : Nat) : Nat := s - 33
theorem offC_nd : ((mk_cells 0 33).map (fun c => offC c.1 c.2)).Nodup := by decide +kernel
theorem offR_nd : ((mk_cells 33 63).map (fun c => offR c.1 c.2)).Nodup := by decide +kernel
