/-! set -/
def p3 : Nat → Nat → Nat → Bool := fun s i k => s == 1 && (i == 0 && (k == 6 || (k == 7 || k == 8)))
def q3 : Nat → Nat → Nat → Bool := fun s _ k => s == 33 && (k == 2 || (k == 3 || k == 4))
theorem Inv_set {μ ρ μ' ρ' : mj_M} (h : Inv μ ρ) (f : fr p3 μ μ') (f' : fr q3 ρ ρ') (e1 : ρ' 33 0 2 = μ' 1 0 6 ∧ rg (μ' 1 0 6) 0 3) (e2 : ρ' 33 0 3 = μ' 1 0 7 ∧ rg (μ' 1 0 7) 1 9) (e3 : ρ' 33 0 4 = μ' 1 0 8 ∧ rg (μ' 1 0 8) 0 120) : Inv μ' ρ' := by
  obtain ⟨n, m, t, tc, z, hA⟩ := h
  have hA0 := hA
  obtain ⟨⟨⟨a1, a2, a3, a4, a5, a6⟩, hb, ⟨c1, c2, c3, c4⟩, hcs, has⟩, -⟩ := hA
  have g := mC_frm f
  have g' := mR_frm f'
  refine Inv_hall hA0 (fr_no f (fun s i k q => by simp [p3] at q; simp [hC]; omega)) (fr_no f' (fun s i k q => by simp [q3] at q; simp [hR]; omega)) ⟨⟨a1, a2, ?_, ?_, ?_, ?_⟩, ⟨e1, e2, e3⟩, ⟨?_, ?_, ?_, ?_⟩, fun c hc => ?_, fun a ha => ?_⟩ (Nat.le_refl m)
  · rw [g 1 0 0 rfl]; exact a3
  · rw [g' 33 0 0 rfl]; exact a4
  · rw [g 1 0 4 rfl]; exact a5
  · rw [g' 33 0 5 rfl]; exact a6
  · rw [g 1 0 10 rfl]; exact c1
  · rw [g 1 0 11 rfl]; exact c2
  · rw [g' 33 0 41 rfl]; exact c3
  · rw [g' 33 0 50 rfl]; exact c4
  · rw [g 2 0 c rfl, g 3 0 c rfl, g 4 0 c rfl, g' 34 0 _ rfl, g' 34 0 _ rfl, g' 34 0 _ rfl]; exact hcs c hc
  · rw [g 7 a 0 rfl, g 7 a 1 rfl, g 7 a 2 rfl, g 7 a 3 rfl, g 5 0 a rfl, g' 35 0 a rfl, g' 36 0 a rfl, g' 37 0 a rfl, g' 38 0 a rfl, g' 39 0 a rfl]; exact has a ha
theorem Inv_3 {μ ρ : mj_M} (h : Inv μ ρ) : (ρ 33 0 2 = μ 1 0 6 ∧ rg (μ 1 0 6) 0 3) ∧ (ρ 33 0 3 = μ 1 0 7 ∧ rg (μ 1 0 7) 1 9) ∧ (ρ 33 0 4 = μ 1 0 8 ∧ rg (μ 1 0 8) 0 120) := by
  obtain ⟨n, m, t, tc, z, ⟨-, hb, -⟩, -⟩ := h
  exact hb
theorem op_set (d : Nat) (w v : Int) {μ ρ : mj_M} (h : Inv μ ρ) : mw2 (kc (d + 20) 3 [v_r 0 0, v_i w, v_i v] μ) (kc (d + 20) 80 [v_r 33 0, v_i w, v_i v] ρ) := by
  obtain ⟨⟨b1, b1'⟩, ⟨b2, b2'⟩, ⟨b3, b3'⟩⟩ := Inv_3 h
  rw [ke3_0, ke80_0, kc44, kc72, rI_some, rI_some]
  by_cases qw : 0 ≤ w ∧ w ≤ 2
  · rw [b01_t qw, if_neg n10, if_neg n10]
    have n20 : ¬ (2 : Int) = 0 := by decide
    have n21 : ¬ (2 : Int) = 1 := by decide
    have n01 : ¬ (0 : Int) = 1 := by decide
    have n02 : ¬ (0 : Int) = 2 := by decide
    have n12 : ¬ (1 : Int) = 2 := by decide
    have hw : w = 0 ∨ w = 1 ∨ w = 2 := by omega
    rcases hw with rfl | rfl | rfl
    · rw [ke53_0, if_pos rfl, kc44, rI_some, if_pos b01_01, rI_some, if_pos rfl, kc72, rI_some, ke80_4]
      by_cases qv : 0 ≤ v ∧ v ≤ 3
      · rw [b01_t qv, if_neg n10, if_neg n10, ke54_0, if_pos rfl, rI_some, if_pos rfl, ke81_0, if_pos rfl, rI_some, if_pos rfl, if_neg n01, ke80_9, if_neg n02]
        refine ⟨_, _, _, rfl, by rw [b1], Inv_set h (fr_up rfl) (fr_tr (fr_tr (fr_up rfl) (fr_up rfl)) (fr_up rfl)) ⟨?_, ?_⟩ ⟨?_, ?_⟩ ⟨?_, ?_⟩⟩
        · rw [up_nk (by decide), up_nk (by decide), up_eq, up_eq]
        · rw [up_eq]; exact qv
        · rw [up_nk (by decide), up_eq, up_nk (by decide)]; exact b2
        · rw [up_nk (by decide)]; exact b2'
        · rw [up_eq, up_nk (by decide), up_nk (by decide)]; exact b3
        · rw [up_nk (by decide)]; exact b3'
      · rw [b01_f qv, if_pos rfl, if_pos rfl]; exact mw2_same _ h
    · rw [ke53_0, if_neg n10, if_pos rfl, kc44, rI_some, if_pos b01_01, rI_some, if_neg n10, if_pos rfl, kc72, rI_some, ke80_4]
      by_cases qv : 1 ≤ v ∧ v ≤ 9
      · rw [b01_t qv, if_neg n10, if_neg n10, ke54_0, if_neg n10, if_pos rfl, rI_some, if_neg n10, if_pos rfl, ke81_0, if_neg n10, if_pos rfl, rI_some, if_neg n10, if_pos rfl, ke80_9, if_neg n12]
        refine ⟨_, _, _, rfl, by rw [b2], Inv_set h (fr_up rfl) (fr_tr (fr_tr (fr_up rfl) (fr_up rfl)) (fr_up rfl)) ⟨?_, ?_⟩ ⟨?_, ?_⟩ ⟨?_, ?_⟩⟩
        · rw [up_nk (by decide), up_nk (by decide), up_eq, up_nk (by decide)]; exact b1
        · rw [up_nk (by decide)]; exact b1'
        · rw [up_nk (by decide), up_eq, up_eq]
        · rw [up_eq]; exact qv
        · rw [up_eq, up_nk (by decide), up_nk (by decide)]; exact b3
        · rw [up_nk (by decide)]; exact b3'
      · rw [b01_f qv, if_pos rfl, if_pos rfl]; exact mw2_same _ h
    · rw [ke53_0, if_neg n20, if_neg n21, kc44, rI_some, if_pos b01_01, rI_some, if_neg n20, if_neg n21, kc72, rI_some, ke80_4]
      by_cases qv : 0 ≤ v ∧ v ≤ 120
      · rw [b01_t qv, if_neg n10, if_neg n10, ke54_0, if_neg n20, if_neg n21, rI_some, if_neg n20, if_neg n21, ke81_0, if_neg n20, if_neg n21, if_pos rfl, rI_some, if_neg n20, if_neg n21, ke80_9, if_pos rfl]
        refine ⟨_, _, _, rfl, by rw [b3], Inv_set h (fr_up rfl) (fr_tr (fr_tr (fr_up rfl) (fr_up rfl)) (fr_up rfl)) ⟨?_, ?_⟩ ⟨?_, ?_⟩ ⟨?_, ?_⟩⟩
        · rw [up_nk (by decide), up_nk (by decide), up_eq, up_nk (by decide)]; exact b1
        · rw [up_nk (by decide)]; exact b1'
        · rw [up_nk (by decide), up_eq, up_nk (by decide)]; exact b2
        · rw [up_nk (by decide)]; exact b2'
        · rw [up_eq, up_eq]
        · rw [up_eq]; exact qv
      · rw [b01_f qv, if_pos rfl, if_pos rfl]; exact mw2_same _ h
  · rw [b01_f qw, if_pos rfl, if_pos rfl]; exact mw2_same _ h
