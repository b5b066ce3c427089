/-! what needs no memory, or reads it alone -/
def b01 (c : Prop) [Decidable c] : Int := if c then 1 else 0
theorem b01_01 {c : Prop} [Decidable c] : b01 c = 0 ∨ b01 c = 1 := by
  unfold b01; split
  · exact Or.inr rfl
  · exact Or.inl rfl
theorem b01_t {c : Prop} [Decidable c] (h : c) : b01 c = 1 := if_pos h
theorem b01_f {c : Prop} [Decidable c] (h : ¬ c) : b01 c = 0 := if_neg h
theorem b01_eq0 {c : Prop} [Decidable c] : b01 c = 0 ↔ ¬ c := by
  unfold b01; split <;> simp_all
theorem kc44 (d : Nat) (x lo hi : Int) (μ : mj_M) : kc (d + 1) 44 [v_i x, v_i lo, v_i hi] μ = some (some (v_i (b01 (lo ≤ x ∧ x ≤ hi))), μ) := by
  rw [ke44_0]
  unfold b01
  split
  · rw [if_neg (by omega)]
  · split
    · rw [if_neg (by omega)]
    · rw [if_pos (by omega)]
def clampI (x lo hi : Int) : Int := if x < lo then lo else if hi < x then hi else x
theorem kc45 (d : Nat) (x lo hi : Int) (μ : mj_M) : kc (d + 1) 45 [v_i x, v_i lo, v_i hi] μ = some (some (v_i (clampI x lo hi)), μ) := by
  rw [ke45_0]
  unfold clampI
  split
  · rfl
  · split <;> rfl
theorem kc72 (d : Nat) (x lo hi : Int) (μ : mj_M) : kc (d + 1) 72 [v_i x, v_i lo, v_i hi] μ = some (some (v_i (b01 (lo ≤ x ∧ x ≤ hi))), μ) := by
  rw [ke72_0]
  unfold b01
  split
  · rw [if_neg (by omega)]
  · split
    · rw [if_neg (by omega)]
    · rw [if_pos (by omega)]
theorem kc73 (d : Nat) (x lo hi : Int) (μ : mj_M) : kc (d + 1) 73 [v_i x, v_i lo, v_i hi] μ = some (some (v_i (clampI x lo hi)), μ) := by
  rw [ke73_0]
  unfold clampI
  split
  · rfl
  · split <;> rfl
theorem kc46 (d : Nat) (x : Int) (μ : mj_M) : kc (d + 2) 46 [v_i x] μ = some (some (v_i (b01 (0 ≤ x ∧ x ≤ 255))), μ) := by
  rw [ke46_0, kc44, rI_some, if_pos b01_01]
theorem kc48 (d : Nat) (x : Int) (μ : mj_M) : kc (d + 2) 48 [v_i x] μ = some (some (v_i (b01 (0 ≤ x ∧ x ≤ 3))), μ) := by
  rw [ke48_0, kc44, rI_some, if_pos b01_01]
theorem kc82 (d : Nat) (x : Int) (μ : mj_M) : kc (d + 2) 82 [v_i x] μ = some (some (v_i (b01 (0 ≤ x ∧ x ≤ 255))), μ) := by
  rw [ke82_0, kc72, rI_some, if_pos b01_01]
theorem kc49 (d : Nat) (x : Int) (μ : mj_M) (n : Nat) (hn : μ 1 0 0 = (n : Int)) (h : n ≤ 100) : kc (d + 2) 49 [v_r 0 0, v_i x] μ = some (some (v_i (b01 (0 ≤ x ∧ x < (n : Int)))), μ) := by
  rw [ke49_0, kc44, rI_some, if_pos b01_01, hn, wi (by omega) (by omega)]
  unfold b01
  congr 4
  simp only [Int.le_sub_one_iff]
theorem kc50 (d : Nat) (x : Int) (μ : mj_M) (n : Nat) (hn : μ 1 0 4 = (n : Int)) (h : n ≤ 100) : kc (d + 2) 50 [v_r 0 0, v_i x] μ = some (some (v_i (b01 (0 ≤ x ∧ x < (n : Int)))), μ) := by
  rw [ke50_0, kc44, rI_some, if_pos b01_01, hn, wi (by omega) (by omega)]
  unfold b01
  congr 4
  simp only [Int.le_sub_one_iff]
theorem kc74 (d : Nat) (x : Int) (μ : mj_M) (n : Nat) (hn : μ 33 0 0 = (n : Int)) (h : n ≤ 100) : kc (d + 2) 74 [v_r 33 0, v_i x] μ = some (some (v_i (b01 (0 ≤ x ∧ x < (n : Int)))), μ) := by
  rw [ke74_0, kc72, rI_some, if_pos b01_01, hn, wi (by omega) (by omega)]
  unfold b01
  congr 4
  simp only [Int.le_sub_one_iff]
theorem kc75 (d : Nat) (x : Int) (μ : mj_M) (n : Nat) (hn : μ 33 0 5 = (n : Int)) (h : n ≤ 100) : kc (d + 2) 75 [v_r 33 0, v_i x] μ = some (some (v_i (b01 (0 ≤ x ∧ x < (n : Int)))), μ) := by
  rw [ke75_0, kc72, rI_some, if_pos b01_01, hn, wi (by omega) (by omega)]
  unfold b01
  congr 4
  simp only [Int.le_sub_one_iff]
