/-! pull -/
theorem pull_q (p : Int) (h0 : 0 ≤ p) (h1 : p < 2147483648) : mj_w (p.tdiv 1000) = p / 1000 ∧ mj_w (p.tdiv 10) = p / 10 ∧ (p / 10).tmod 100 = p / 10 % 100 ∧ p.tmod 10 = p % 10 ∧ p.tmod 1000 = p % 1000 := by
  refine ⟨?_, ?_, ?_, ?_, ?_⟩
  · rw [Int.tdiv_eq_ediv_of_nonneg h0, wi (by omega) (by omega)]
  · rw [Int.tdiv_eq_ediv_of_nonneg h0, wi (by omega) (by omega)]
  · exact Int.tmod_eq_emod_of_nonneg (by omega)
  · exact Int.tmod_eq_emod_of_nonneg h0
  · exact Int.tmod_eq_emod_of_nonneg h0
theorem kc47 (d : Nat) (p : Int) (μ : mj_M) (h : mj_n32 p) : kc (d + 2) 47 [v_i p] μ = some (some (v_i (b01 ((0 ≤ p ∧ p ≤ 3999) ∧ 0 < p / 10 % 100))), μ) := by
  rw [ke47_0, kc44, rI_some]
  by_cases q : 0 ≤ p ∧ p ≤ 3999
  · obtain ⟨e1, e2, e3, -, -⟩ := pull_q p q.1 h.2
    rw [b01_t q, if_neg n10, e2, e3]
    by_cases q2 : 0 < p / 10 % 100
    · rw [if_pos q2, b01_t ⟨q, q2⟩]
    · rw [if_neg q2, b01_f (fun w => q2 w.2)]
  · rw [b01_f q, if_pos rfl, b01_f (fun w => q w.1)]
theorem kc99g (d : Nat) (a p v : Int) (μ : mj_M) (h : mj_n32 p) : kc (d + 1) 99 [v_r 33 0, v_i a, v_i p, v_i v] μ = kd d 99 2 [some (v_r 33 0), some (v_i a), some (v_i p), some (v_i v), none] [v_i (b01 ((0 ≤ p ∧ p ≤ 3999) ∧ 0 < p / 10 % 100))] μ := by
  rw [ke99_0]
  by_cases q : p < 0
  · rw [if_pos q, b01_f (fun w => by have := w.1.1; omega)]
  · obtain ⟨e1, -, -, -, e5⟩ := pull_q p (by omega) h.2
    rw [if_neg q, e1, e5]
    by_cases q1 : 3 < p / 1000
    · rw [if_pos q1, b01_f (fun w => by have := w.1.2; omega)]
    · rw [if_neg q1]
      by_cases q2 : 9 < p % 1000
      · rw [if_pos q2, b01_t ⟨⟨by omega, by omega⟩, by omega⟩]
      · rw [if_neg q2, b01_f (fun w => by have := w.2; omega)]
theorem wk2 (m : Nat) (h : m ≤ 100) : mj_w ((m : Int) + 1) = ((m + 1 : Nat) : Int) ∧ mj_w (mj_w ((m : Int) + 1) - 1) = (m : Int) := by
  refine ⟨?_, ?_⟩
  · rw [wi (by omega) (by omega)]; omega
  · rw [wi (z := (m : Int) + 1) (by omega) (by omega), wi (by omega) (by omega)]; omega
theorem pull_r (p : Int) (h : (0 ≤ p ∧ p ≤ 3999) ∧ 0 < p / 10 % 100) : rg (mj_w (p.tdiv 1000)) 0 3 ∧ rg ((mj_w (p.tdiv 10)).tmod 100) 1 99 ∧ rg (p.tmod 10) 0 9 := by
  obtain ⟨e1, e2, e3, e4, -⟩ := pull_q p (by omega) (by omega)
  rw [e1, e2, e3, e4]
  unfold rg
  omega
theorem Inv_pull {μ ρ : mj_M} {n m t tc z : Nat} {a x y w v : Int} (hA : vAll (mC μ) (mR ρ) n m t tc z) (hm : m < 16) (ra : rg a 0 5) (rx : rg x 0 3) (ry : rg y 1 99) (rw' : rg w 0 9) (rv : rg v 0 119) :
    Inv (mj_up (mj_up (mj_up (mj_up (mj_up (mj_up μ 7 m 0 a) 7 m 1 x) 7 m 2 y) 7 m 3 w) 5 0 m v) 1 0 4 ((m + 1 : Nat) : Int)) (mj_up (mj_up (mj_up (mj_up (mj_up (mj_up ρ 35 0 m a) 36 0 m x) 37 0 m y) 38 0 m w) 39 0 m v) 33 0 5 ((m + 1 : Nat) : Int)) := by
  have hA0 := hA
  obtain ⟨⟨⟨a1, a2, a3, a4, a5, a6⟩, hb, hc4, hcs, has⟩, -⟩ := hA
  refine Inv_hall (n' := n) (m' := m + 1) hA0 (fr_tr (fr_tr (fr_tr (fr_tr (fr_tr (fr_up rfl) (fr_up rfl)) (fr_up rfl)) (fr_up rfl)) (fr_up rfl)) (fr_up rfl)) (fr_tr (fr_tr (fr_tr (fr_tr (fr_tr (fr_up rfl) (fr_up rfl)) (fr_up rfl)) (fr_up rfl)) (fr_up rfl)) (fr_up rfl)) ?_ (Nat.le_succ m)
  rw [mC_up rfl, mC_up rfl, mC_up rfl, mC_up rfl, mC_up rfl, mC_up rfl, mR_up rfl, mR_up rfl, mR_up rfl, mR_up rfl, mR_up rfl, mR_up rfl]
  generalize mC μ = M at *
  generalize mR ρ = N at *
  have c1 : ∀ k, k ≠ 4 → mj_up (mj_up (mj_up (mj_up (mj_up (mj_up M 7 m 0 a) 7 m 1 x) 7 m 2 y) 7 m 3 w) 5 0 m v) 1 0 4 ((m + 1 : Nat) : Int) 1 0 k = M 1 0 k := fun k hk => by
    rw [up_nk hk, up_ns (by decide), up_ns (by decide), up_ns (by decide), up_ns (by decide), up_ns (by decide)]
  have d1 : ∀ k, k ≠ 5 → mj_up (mj_up (mj_up (mj_up (mj_up (mj_up N 35 0 m a) 36 0 m x) 37 0 m y) 38 0 m w) 39 0 m v) 33 0 5 ((m + 1 : Nat) : Int) 33 0 k = N 33 0 k := fun k hk => by
    rw [up_nk hk, up_ns (by decide), up_ns (by decide), up_ns (by decide), up_ns (by decide), up_ns (by decide)]
  have c2 : ∀ s, s = 2 ∨ s = 3 ∨ s = 4 → ∀ i k, mj_up (mj_up (mj_up (mj_up (mj_up (mj_up M 7 m 0 a) 7 m 1 x) 7 m 2 y) 7 m 3 w) 5 0 m v) 1 0 4 ((m + 1 : Nat) : Int) s i k = M s i k := fun s hs i k => by
    rw [up_ns (by omega), up_ns (by omega), up_ns (by omega), up_ns (by omega), up_ns (by omega), up_ns (by omega)]
  have d2 : ∀ k, mj_up (mj_up (mj_up (mj_up (mj_up (mj_up N 35 0 m a) 36 0 m x) 37 0 m y) 38 0 m w) 39 0 m v) 33 0 5 ((m + 1 : Nat) : Int) 34 0 k = N 34 0 k := fun k => by
    rw [up_ns (by decide), up_ns (by decide), up_ns (by decide), up_ns (by decide), up_ns (by decide), up_ns (by decide)]
  refine ⟨⟨a1, by omega, ?_, ?_, up_eq _ _ _ _ _, up_eq _ _ _ _ _⟩, ?_, ?_, fun c hc => ?_, fun b hb' => ?_⟩
  · rw [c1 0 (by decide)]; exact a3
  · rw [d1 0 (by decide)]; exact a4
  · rw [c1 6 (by decide), c1 7 (by decide), c1 8 (by decide), d1 2 (by decide), d1 3 (by decide), d1 4 (by decide)]; exact hb
  · rw [c1 10 (by decide), c1 11 (by decide), d1 41 (by decide), d1 50 (by decide)]; exact hc4
  · rw [c2 2 (by decide), c2 3 (by decide), c2 4 (by decide), d2, d2, d2]; exact hcs c hc
  · by_cases e : b = m
    · rw [e]
      simp only [up_ap]
      simp
      exact ⟨ra, rx, ry, rw', rv⟩
    · have h5 := has b (by omega)
      simp only [up_ap]
      simp [e]
      exact h5
theorem op_pull (d : Nat) (a p v : Int) (hp : mj_n32 p) {μ ρ : mj_M} (h : Inv μ ρ) : mw2 (kc (d + 20) 8 [v_r 0 0, v_i a, v_i p, v_i v] μ) (kc (d + 20) 99 [v_r 33 0, v_i a, v_i p, v_i v] ρ) := by
  have h0 := h
  obtain ⟨n, m, t, tc, z, hA⟩ := h
  have a2 : m ≤ 16 := hA.1.1.2.1
  have cm : μ 1 0 4 = (m : Int) := hA.1.1.2.2.2.2.1
  have rm : ρ 33 0 5 = (m : Int) := hA.1.1.2.2.2.2.2
  rw [ke8_0, kc99g (d + 19) a p v ρ hp, ke99_2, kc44, kc72, rI_some, rI_some]
  by_cases qa : 0 ≤ a ∧ a ≤ 5
  · rw [b01_t qa, if_neg n10, if_neg n10, kc44, rI_some]
    by_cases qp : (0 ≤ p ∧ p ≤ 3999) ∧ 0 < p / 10 % 100
    · rw [b01_t qp, if_neg n10, kc72, rI_some]
      by_cases qv : 0 ≤ v ∧ v ≤ 119
      · rw [b01_t qv, if_neg n10, if_neg n10, kc47 (d + 17) p μ hp, rI_some, b01_t qp, if_neg n10, cm, rm]
        by_cases q : (m : Int) < 16
        · have hb16 : 0 ≤ (m : Int) ∧ (m : Int) < 16 := by omega
          have hb17 : 0 ≤ (m : Int) ∧ (m : Int) < 17 := by omega
          have hne : ¬ (m : Int) = 16 := by omega
          have hm16 : m < 16 := by omega
          obtain ⟨r1, r2, r3⟩ := pull_r p qp
          obtain ⟨w1, w2⟩ := wk2 m (by omega)
          have cm' : ∀ x y u s : Int, mj_up (mj_up (mj_up (mj_up μ 7 m 0 x) 7 m 1 y) 7 m 2 u) 7 m 3 s 1 0 4 = (m : Int) := fun x y u s => by
            rw [up_ns (by decide), up_ns (by decide), up_ns (by decide), up_ns (by decide)]; exact cm
          have rm' : ∀ x y u s r : Int, mj_up (mj_up (mj_up (mj_up (mj_up ρ 35 0 m x) 36 0 m y) 37 0 m u) 38 0 m s) 39 0 m r 33 0 5 = (m : Int) := fun x y u s r => by
            rw [up_ns (by decide), up_ns (by decide), up_ns (by decide), up_ns (by decide), up_ns (by decide)]; exact rm
          rw [if_pos q, if_pos hb16, if_neg hne, ke163_0, rV_some, if_pos hb16, ke100_0, rm, if_pos hb17, if_pos hb17, if_pos hb17, if_pos hb17, if_pos hb17, rV_some, Int.toNat_natCast, cm', rm', w2, w1]
          exact ⟨_, _, _, rfl, rfl, Inv_pull hA hm16 qa r1 r2 r3 qv⟩
        · have : (m : Int) = 16 := by omega
          rw [if_neg q, if_pos this]; exact mw2_same _ h0
      · rw [b01_f qv, if_pos rfl, if_pos rfl]; exact mw2_same _ h0
    · rw [b01_f qp, if_pos rfl]
      by_cases qv : 0 ≤ v ∧ v ≤ 119
      · rw [b01_t qv, if_neg n10, kc47 (d + 17) p μ hp, rI_some, b01_f qp, if_pos rfl]; exact mw2_same _ h0
      · rw [b01_f qv, if_pos rfl]; exact mw2_same _ h0
  · rw [b01_f qa, if_pos rfl, if_pos rfl]; exact mw2_same _ h0
