/-! a counter more; changes of one -/
theorem w3 (n : Nat) (h : n < 4) : (mj_w (3 * (n : Int)) = ((3 * n : Nat) : Int) ∧ mj_w (((3 * n : Nat) : Int) + 1) = ((3 * n + 1 : Nat) : Int) ∧ mj_w (((3 * n : Nat) : Int) + 2) = ((3 * n + 2 : Nat) : Int) ∧ mj_w (mj_w ((n : Int) + 1) - 1) = (n : Int) ∧ mj_w ((n : Int) + 1) = ((n + 1 : Nat) : Int)) ∧
    (0 ≤ (n : Int) ∧ (n : Int) < 4) ∧ (0 ≤ ((3 * n : Nat) : Int) ∧ ((3 * n : Nat) : Int) < 12) ∧ (0 ≤ ((3 * n + 1 : Nat) : Int) ∧ ((3 * n + 1 : Nat) : Int) < 12) ∧ (0 ≤ ((3 * n + 2 : Nat) : Int) ∧ ((3 * n + 2 : Nat) : Int) < 12) := by
  refine ⟨⟨?_, ?_, ?_, ?_, ?_⟩, ?_, ?_, ?_, ?_⟩
  · rw [wi (by omega) (by omega)]; omega
  · rw [wi (by omega) (by omega)]; omega
  · rw [wi (by omega) (by omega)]; omega
  · rw [wi (z := (n : Int) + 1) (by omega) (by omega), wi (by omega) (by omega)]; omega
  · rw [wi (by omega) (by omega)]; omega
  all_goals omega
theorem op_counter (d : Nat) (a b : Int) {μ ρ : mj_M} (h : Inv μ ρ) : mw2 (kc (d + 20) 0 [v_r 0 0, v_i a, v_i b] μ) (kc (d + 20) 77 [v_r 33 0, v_i a, v_i b] ρ) := by
  have h0 := h
  obtain ⟨n, m, t, tc, z, ⟨⟨a1, a2, a3, a4, a5, a6⟩, hb, hc4, hcs, has⟩, hT, hP, hM, hS⟩ := h
  have cn : μ 1 0 0 = (n : Int) := a3
  have rn : ρ 33 0 0 = (n : Int) := a4
  have k76 : ∀ (x : Int) (ρ : mj_M), kc (d + 19) 76 [v_i 0, v_i x] ρ = some (some (v_i (b01 (0 ≤ x ∧ x ≤ 15))), ρ) := by
    intro x ρ; rw [ke76_0, if_pos rfl, kc72, rI_some, if_pos b01_01]
  have k76' : ∀ (x : Int) (ρ : mj_M), kc (d + 19) 76 [v_i 1, v_i x] ρ = some (some (v_i (b01 (0 ≤ x ∧ x ≤ 9))), ρ) := by
    intro x ρ; rw [ke76_0, if_neg n10, if_pos rfl, kc72, rI_some, if_pos b01_01]
  rw [ke0_0, ke77_0, kc44, k76, rI_some, rI_some]
  by_cases q1 : 0 ≤ a ∧ a ≤ 15
  · rw [b01_t q1, if_neg n10, if_neg n10, kc44, k76', rI_some, rI_some]
    by_cases q2 : 0 ≤ b ∧ b ≤ 9
    · rw [b01_t q2, if_neg n10, if_neg n10, cn, rn]
      by_cases q3 : (n : Int) < 4
      · have n4' : n < 4 := by omega
        have nn4 : ¬ (n : Int) = 4 := by omega
        rw [if_pos q3, if_pos (w3 n n4').2.1, if_pos (w3 n n4').2.1, if_pos (w3 n n4').2.1, if_neg nn4, (w3 n n4').1.1, (w3 n n4').1.2.1, (w3 n n4').1.2.2.1, (w3 n n4').1.2.2.2.1, (w3 n n4').1.2.2.2.2, if_pos (w3 n n4').2.2.1, if_pos (w3 n n4').2.2.2.1, if_pos (w3 n n4').2.2.2.2, Int.toNat_natCast, Int.toNat_natCast, Int.toNat_natCast, Int.toNat_natCast]
        refine mw2_eq rfl ⟨n + 1, m, t, tc, z, ?_⟩
        rw [mC_up rfl, mC_up rfl, mC_up rfl, mC_up rfl, mR_up rfl, mR_up rfl, mR_up rfl, mR_up rfl]
        have f4 : ∀ (P : Nat → Nat → Nat → Bool) (M : mj_M) (w x y v : Int), P 2 0 n = true → P 3 0 n = true → P 4 0 n = true → P 1 0 0 = true → fr P M (mj_up (mj_up (mj_up (mj_up M 2 0 n w) 3 0 n x) 4 0 n y) 1 0 0 v) := fun P M w x y v p1 p2 p3 p4 => fr_tr (fr_tr (fr_tr (fr_up p1) (fr_up p2)) (fr_up p3)) (fr_up p4)
        have g4 : ∀ (P : Nat → Nat → Nat → Bool) (M : mj_M) (k k' k'' : Nat) (w x y v : Int), (∀ k, P 34 0 k = true) → P 33 0 0 = true → fr P M (mj_up (mj_up (mj_up (mj_up M 34 0 k w) 34 0 k' x) 34 0 k'' y) 33 0 0 v) := fun P M k k' k'' w x y v p1 p4 => fr_tr (fr_tr (fr_tr (fr_up (p1 k)) (fr_up (p1 k'))) (fr_up (p1 k''))) (fr_up p4)
        refine ⟨⟨⟨by omega, a2, up_eq _ _ _ _ _, up_eq _ _ _ _ _, ?_, ?_⟩, ?_, ?_, fun c hc => ?_, fun b' hb' => ?_⟩, vText_cg hT (f4 _ _ _ _ _ _ rfl rfl rfl rfl) (g4 _ _ _ _ _ _ _ _ _ (fun _ => rfl) rfl), vTape_cg hP (f4 _ _ _ _ _ _ rfl rfl rfl rfl) (g4 _ _ _ _ _ _ _ _ _ (fun _ => rfl) rfl), vImg_cg hM (f4 _ _ _ _ _ _ rfl rfl rfl rfl) (g4 _ _ _ _ _ _ _ _ _ (fun _ => rfl) rfl), vSheets_cg hS (f4 _ _ _ _ _ _ rfl rfl rfl rfl) (g4 _ _ _ _ _ _ _ _ _ (fun _ => rfl) rfl)⟩
        · rw [up_nk (by decide), up_ns (by decide), up_ns (by decide), up_ns (by decide)]; exact a5
        · rw [up_nk (by decide), up_ns (by decide), up_ns (by decide), up_ns (by decide)]; exact a6
        · have r1 : ∀ k, k ≠ 0 → mj_up (mj_up (mj_up (mj_up (mC μ) 2 0 n a) 3 0 n b) 4 0 n (-1)) 1 0 0 ((n + 1 : Nat) : Int) 1 0 k = mC μ 1 0 k := fun k hk => by rw [up_nk hk, up_ns (by decide), up_ns (by decide), up_ns (by decide)]
          have r2 : ∀ k, k ≠ 0 → mj_up (mj_up (mj_up (mj_up (mR ρ) 34 0 (3 * n) a) 34 0 (3 * n + 1) b) 34 0 (3 * n + 2) (-1)) 33 0 0 ((n + 1 : Nat) : Int) 33 0 k = mR ρ 33 0 k := fun k hk => by rw [up_nk hk, up_ns (by decide), up_ns (by decide), up_ns (by decide)]
          rw [r1 6 (by decide), r1 7 (by decide), r1 8 (by decide), r2 2 (by decide), r2 3 (by decide), r2 4 (by decide)]; exact hb
        · have r1 : ∀ k, k ≠ 0 → mj_up (mj_up (mj_up (mj_up (mC μ) 2 0 n a) 3 0 n b) 4 0 n (-1)) 1 0 0 ((n + 1 : Nat) : Int) 1 0 k = mC μ 1 0 k := fun k hk => by rw [up_nk hk, up_ns (by decide), up_ns (by decide), up_ns (by decide)]
          have r2 : ∀ k, k ≠ 0 → mj_up (mj_up (mj_up (mj_up (mR ρ) 34 0 (3 * n) a) 34 0 (3 * n + 1) b) 34 0 (3 * n + 2) (-1)) 33 0 0 ((n + 1 : Nat) : Int) 33 0 k = mR ρ 33 0 k := fun k hk => by rw [up_nk hk, up_ns (by decide), up_ns (by decide), up_ns (by decide)]
          rw [r1 10 (by decide), r1 11 (by decide), r2 41 (by decide), r2 50 (by decide)]; exact hc4
        · have s2 : ∀ c, mj_up (mj_up (mj_up (mj_up (mC μ) 2 0 n a) 3 0 n b) 4 0 n (-1)) 1 0 0 ((n + 1 : Nat) : Int) 2 0 c = mj_up (mC μ) 2 0 n a 2 0 c := fun c => by rw [up_ns (by decide), up_ns (by decide), up_ns (by decide)]
          have s3 : ∀ c, mj_up (mj_up (mj_up (mj_up (mC μ) 2 0 n a) 3 0 n b) 4 0 n (-1)) 1 0 0 ((n + 1 : Nat) : Int) 3 0 c = mj_up (mj_up (mC μ) 2 0 n a) 3 0 n b 3 0 c := fun c => by rw [up_ns (by decide), up_ns (by decide)]
          have s4 : ∀ c, mj_up (mj_up (mj_up (mj_up (mC μ) 2 0 n a) 3 0 n b) 4 0 n (-1)) 1 0 0 ((n + 1 : Nat) : Int) 4 0 c = mj_up (mj_up (mj_up (mC μ) 2 0 n a) 3 0 n b) 4 0 n (-1) 4 0 c := fun c => by rw [up_ns (by decide)]
          have s34 : ∀ k, mj_up (mj_up (mj_up (mj_up (mR ρ) 34 0 (3 * n) a) 34 0 (3 * n + 1) b) 34 0 (3 * n + 2) (-1)) 33 0 0 ((n + 1 : Nat) : Int) 34 0 k = mj_up (mj_up (mj_up (mR ρ) 34 0 (3 * n) a) 34 0 (3 * n + 1) b) 34 0 (3 * n + 2) (-1) 34 0 k := fun k => by rw [up_ns (by decide)]
          rw [s2, s3, s4, s34, s34, s34]
          by_cases e : c = n
          · rw [e, up_eq, up_eq, up_eq, up_nk (show 3 * n ≠ 3 * n + 2 by omega), up_nk (show 3 * n ≠ 3 * n + 1 by omega), up_eq, up_nk (show 3 * n + 1 ≠ 3 * n + 2 by omega), up_eq, up_eq]
            exact ⟨⟨rfl, q1⟩, ⟨rfl, q2⟩, ⟨rfl, by decide, by decide⟩⟩
          · have h3 := hcs c (by omega)
            simp only [up_nk e, up_nk (show 3 * c ≠ 3 * n + 2 by omega), up_nk (show 3 * c ≠ 3 * n + 1 by omega), up_nk (show 3 * c ≠ 3 * n by omega), up_nk (show 3 * c + 1 ≠ 3 * n + 2 by omega), up_nk (show 3 * c + 1 ≠ 3 * n + 1 by omega), up_nk (show 3 * c + 1 ≠ 3 * n by omega), up_nk (show 3 * c + 2 ≠ 3 * n + 2 by omega), up_nk (show 3 * c + 2 ≠ 3 * n + 1 by omega), up_nk (show 3 * c + 2 ≠ 3 * n by omega)]
            exact h3
        · have r5 : ∀ s, s = 5 ∨ s = 7 → ∀ i k, mj_up (mj_up (mj_up (mj_up (mC μ) 2 0 n a) 3 0 n b) 4 0 n (-1)) 1 0 0 ((n + 1 : Nat) : Int) s i k = mC μ s i k := fun s hs i k => by rw [up_ns (by omega), up_ns (by omega), up_ns (by omega), up_ns (by omega)]
          have r6 : ∀ s, 34 < s → ∀ i k, mj_up (mj_up (mj_up (mj_up (mR ρ) 34 0 (3 * n) a) 34 0 (3 * n + 1) b) 34 0 (3 * n + 2) (-1)) 33 0 0 ((n + 1 : Nat) : Int) s i k = mR ρ s i k := fun s hs i k => by rw [up_ns (by omega), up_ns (by omega), up_ns (by omega), up_ns (by omega)]
          rw [r5 7 (Or.inr rfl), r5 7 (Or.inr rfl), r5 7 (Or.inr rfl), r5 7 (Or.inr rfl), r5 5 (Or.inl rfl), r6 35 (by decide), r6 36 (by decide), r6 37 (by decide), r6 38 (by decide), r6 39 (by decide)]
          exact has b' hb'
      · have : (n : Int) = 4 := by omega
        rw [if_neg q3, if_pos this]; exact mw2_same _ h0
    · rw [b01_f q2, if_pos rfl, if_pos rfl]; exact mw2_same _ h0
  · rw [b01_f q1, if_pos rfl, if_pos rfl]; exact mw2_same _ h0
