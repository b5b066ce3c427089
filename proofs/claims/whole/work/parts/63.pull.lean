/-! pull -/
theorem pull_q (p : Int) (h0 : 0 ≤ p) (h1 : p < 2147483648) : mj_w (p.tdiv 1000) = p / 1000 ∧ mj_w (p.tdiv 10) = p / 10 ∧ (p / 10).tmod 100 = p / 10 % 100 ∧ p.tmod 10 = p % 10 ∧ p.tmod 1000 = p % 1000 := by
  refine ⟨?_, ?_, ?_, ?_, ?_⟩
  · rw [Int.tdiv_eq_ediv_of_nonneg h0, wi (by omega) (by omega)]
  · rw [Int.tdiv_eq_ediv_of_nonneg h0, wi (by omega) (by omega)]
  · exact Int.tmod_eq_emod_of_nonneg (by omega)
  · exact Int.tmod_eq_emod_of_nonneg h0
  · exact Int.tmod_eq_emod_of_nonneg h0
theorem kc47 (d : Nat) (p : Int) (μ : mj_M) (h : mj_n32 p) : kc (d + 2) 47 [v_i p] μ = some (some (v_i (b01 ((0 ≤ p ∧ p ≤ 3999) ∧ 0 < p / 10 % 100))), μ) := by
  rw [ke47_0, kc44, rI_some]
  by_cases q : 0 ≤ p ∧ p ≤ 3999
  · obtain ⟨e1, e2, e3, -, -⟩ := pull_q p q.1 h.2
    rw [b01_t q, if_neg n10, e2, e3]
    by_cases q2 : 0 < p / 10 % 100
    · rw [if_pos q2, b01_t ⟨q, q2⟩]
    · rw [if_neg q2, b01_f (fun w => q2 w.2)]
  · rw [b01_f q, if_pos rfl, b01_f (fun w => q w.1)]
theorem kc99g (d : Nat) (a p v : Int) (μ : mj_M) (h : mj_n32 p) : kc (d + 1) 99 [v_r 33 0, v_i a, v_i p, v_i v] μ = kd d 99 2 [some (v_r 33 0), some (v_i a), some (v_i p), some (v_i v), none] [v_i (b01 ((0 ≤ p ∧ p ≤ 3999) ∧ 0 < p / 10 % 100))] μ := by
  rw [ke99_0]
  by_cases q : p < 0
  · rw [if_pos q, b01_f (fun w => by have := w.1.1; omega)]
  · obtain ⟨e1, -, -, -, e5⟩ := pull_q p (by omega) h.2
    rw [if_neg q, e1, e5]
    by_cases q1 : 3 < p / 1000
    · rw [if_pos q1, b01_f (fun w => by have := w.1.2; omega)]
    · rw [if_neg q1]
      by_cases q2 : 9 < p % 1000
      · rw [if_pos q2, b01_t ⟨⟨by omega, by omega⟩, by omega⟩]
      · rw [if_neg q2, b01_f (fun w => by have := w.2; omega)]
