/-! copy -/
def qC (s : Nat) : Nat → Nat → Nat → Bool := fun a _ k => a == 47 && (decide (40 * s ≤ k) && decide (k < 40 * s + 40))
theorem qC_qSh {s : Nat} {ρ ρ' : mj_M} (h : fr (qC s) ρ ρ') : fr (qSh s) ρ ρ' := fr_mono h (fun a b c q => by unfold qSh at q; rw [Bool.or_eq_false_iff] at q; exact q.2)
def cpR (N : Nat → Int) (a b n p : Nat) : Int := if b ≤ p ∧ p < b + n then N (a + (p - b)) else N p
theorem kd159 (d n a b : Nat) (ha : a + n ≤ 160) (hb : b + n ≤ 160) (ρ : mj_M) (P : Nat → Nat → Nat → Bool) (hP : ∀ i, i < n → P 47 0 (b + i) = true) :
    ∀ j k (o1 o2 o3 o4 o9 : Option mj_V) (ρ1 : mj_M), k + j = n → fr P ρ ρ1 → (∀ p, ((a < b ∧ b + (n - k) ≤ p ∧ p < b + n) ∨ (¬ a < b ∧ b ≤ p ∧ p < b + k) → ρ1 47 0 p = ρ 47 0 (a + (p - b))) ∧ (¬ ((a < b ∧ b + (n - k) ≤ p ∧ p < b + n) ∨ (¬ a < b ∧ b ≤ p ∧ p < b + k)) → ρ1 47 0 p = ρ 47 0 p)) →
      mwI (kd d 159 8 [some (v_r 33 0), o1, o2, o3, o4, some (v_i (n : Int)), some (v_i (a : Int)), some (v_i (b : Int)), some (v_i (k : Int)), o9] [] ρ1) (fun x ρ' => x = (n : Int) ∧ fr P ρ ρ' ∧ ∀ p, ρ' 47 0 p = cpR (ρ 47 0) a b n p) := by
  intro j
  induction j with
  | zero =>
    intro k o1 o2 o3 o4 o9 ρ1 hk hf hc
    rw [ke159_8, if_neg (by omega)]
    refine mwI_ret ⟨rfl, hf, fun p => ?_⟩
    unfold cpR
    by_cases w : b ≤ p ∧ p < b + n
    · rw [if_pos w]; exact (hc p).1 (by omega)
    · rw [if_neg w]; exact (hc p).2 (by omega)
  | succ j ih =>
    intro k o1 o2 o3 o4 o9 ρ1 hk hf hc
    have hkn : k < n := by omega
    rw [ke159_8, if_pos (by omega)]
    by_cases q : a < b
    · have qi : (a : Int) < (b : Int) := by omega
      have e0 : mj_w (mj_w ((n : Int) - 1) - (k : Int)) = ((n - 1 - k : Nat) : Int) := by rw [wi (z := (n : Int) - 1) (by omega) (by omega), wi (by omega) (by omega)]; omega
      have e1 : mj_w ((a : Int) + ((n - 1 - k : Nat) : Int)) = ((a + (n - 1 - k) : Nat) : Int) := by rw [wi (by omega) (by omega)]; omega
      have e2 : mj_w ((b : Int) + ((n - 1 - k : Nat) : Int)) = ((b + (n - 1 - k) : Nat) : Int) := by rw [wi (by omega) (by omega)]; omega
      rw [if_pos qi, e0, ke159_10, e1, e2, if_pos (by omega), if_pos (by omega), Int.toNat_natCast, Int.toNat_natCast, wk k (m := 160) (by omega) (by omega), (hc (a + (n - 1 - k))).2 (by omega)]
      refine ih (k + 1) _ _ _ _ _ _ (by omega) (fr_tr hf (fr_up (hP _ (by omega)))) (fun p => ?_)
      by_cases e : p = b + (n - 1 - k)
      · rw [e, up_eq]
        refine ⟨fun _ => ?_, fun w => absurd (Or.inl ⟨q, by omega, by omega⟩) w⟩
        rw [show b + (n - 1 - k) - b = n - 1 - k by omega]
      · rw [up_nk e]
        exact ⟨fun w => (hc p).1 (by omega), fun w => (hc p).2 (by omega)⟩
    · have qi : ¬ (a : Int) < (b : Int) := by omega
      have e1 : mj_w ((a : Int) + (k : Int)) = ((a + k : Nat) : Int) := by rw [wi (by omega) (by omega)]; omega
      have e2 : mj_w ((b : Int) + (k : Int)) = ((b + k : Nat) : Int) := by rw [wi (by omega) (by omega)]; omega
      rw [if_neg qi, ke159_10, e1, e2, if_pos (by omega), if_pos (by omega), Int.toNat_natCast, Int.toNat_natCast, wk k (m := 160) (by omega) (by omega), (hc (a + k)).2 (by omega)]
      refine ih (k + 1) _ _ _ _ _ _ (by omega) (fr_tr hf (fr_up (hP _ (by omega)))) (fun p => ?_)
      by_cases e : p = b + k
      · rw [e, up_eq]
        refine ⟨fun _ => ?_, fun w => absurd (Or.inr ⟨q, by omega, by omega⟩) w⟩
        rw [show b + k - b = k by omega]
      · rw [up_nk e]
        exact ⟨fun w => (hc p).1 (by omega), fun w => (hc p).2 (by omega)⟩
theorem w40' (s : Nat) (i : Nat) (hs : s < 4) (hi : i ≤ 40) : mj_w (mj_w (40 * (s : Int)) + (i : Int)) = ((40 * s + i : Nat) : Int) := by
  rw [wi (z := 40 * (s : Int)) (by omega) (by omega), wi (by omega) (by omega)]; omega
theorem cpy_at (μ : mj_M) (s i p s' i' p' n a b k : Nat) : mj_cpy μ s i p s' i' p' n a b k = if a = s' ∧ b = i' ∧ p' ≤ k ∧ k < p' + n then μ s i (p + (k - p')) else μ a b k := rfl
theorem copy_inv {μ ρ ρ1 : mj_M} {k l i j n : Nat} (h : Inv μ ρ) (hk : k < 4) (hl : l < 4) (hi : i + n ≤ 40) (hj : j + n ≤ 40) (f1 : fr (qC l) ρ ρ1) (f2 : ∀ p, ρ1 47 0 p = cpR (ρ 47 0) (40 * k + i) (40 * l + j) n p) : Inv (mj_cpy μ 20 k i 20 l j n) ρ1 := by
  obtain ⟨-, -, h3⟩ := Inv_sh h k hk
  obtain ⟨g1, g2, g3⟩ := Inv_sh h l hl
  have fC : fr (pSh l) μ (mj_cpy μ 20 k i 20 l j n) := by
    intro a b c hq
    rw [cpy_at, if_neg]
    intro w
    rw [w.1, w.2.1] at hq
    simp [pSh] at hq
  refine Inv_sheet h hl fC (qC_qSh f1) ⟨?_, ?_, fun r hr => ?_⟩
  · rw [f1 45 0 l rfl, cpy_at, if_neg (fun w => absurd w.1 (by decide))]; exact g1
  · rw [f1 46 0 l rfl, cpy_at, if_neg (fun w => absurd w.1 (by decide))]; exact g2
  · rw [f2, cpy_at]
    unfold cpR
    by_cases w : j ≤ r ∧ r < j + n
    · have e : 40 * k + i + (40 * l + r - (40 * l + j)) = 40 * k + (i + (r - j)) := by omega
      rw [if_pos (show 40 * l + j ≤ 40 * l + r ∧ 40 * l + r < 40 * l + j + n by omega), if_pos (show 20 = 20 ∧ l = l ∧ j ≤ r ∧ r < j + n from ⟨rfl, rfl, w⟩), e]
      exact h3 (i + (r - j)) (by omega)
    · rw [if_neg (show ¬ (40 * l + j ≤ 40 * l + r ∧ 40 * l + r < 40 * l + j + n) by omega), if_neg (fun v => w v.2.2)]
      exact g3 r hr
theorem op_copy (d : Nat) (s i o j n : Int) (hi : mj_n32 i) (hj : mj_n32 j) (hn : mj_n32 n) {μ ρ : mj_M} (h : Inv μ ρ) : mw2 (kc (d + 20) 41 [v_r 0 0, v_i s, v_i i, v_i o, v_i j, v_i n] μ) (kc (d + 20) 159 [v_r 33 0, v_i s, v_i i, v_i o, v_i j, v_i n] ρ) := by
  unfold mj_n32 at hi hj hn
  rw [ke41_0, ke159_0, kc48, kc72, rI_some, rI_some]
  by_cases q : 0 ≤ s ∧ s ≤ 3
  · obtain ⟨k, rfl⟩ : ∃ k : Nat, s = k := ⟨s.toNat, by omega⟩
    have hb : 0 ≤ (k : Int) ∧ (k : Int) < 4 := by omega
    have hk : k < 4 := by omega
    rw [b01_t q, if_neg n10, if_neg n10, kc48, kc72, rI_some, rI_some]
    by_cases q' : 0 ≤ o ∧ o ≤ 3
    · obtain ⟨l, rfl⟩ : ∃ l : Nat, o = l := ⟨o.toNat, by omega⟩
      have hb' : 0 ≤ (l : Int) ∧ (l : Int) < 4 := by omega
      have hl : l < 4 := by omega
      obtain ⟨⟨h1, h1'⟩, ⟨h2, h2'⟩, h3⟩ := Inv_sh h k hk
      obtain ⟨⟨g1, g1'⟩, ⟨g2, g2'⟩, g3⟩ := Inv_sh h l hl
      unfold rg at h2' g2'
      rw [b01_t q', if_neg n10, if_neg n10, if_pos hb, if_pos hb', if_pos hb, if_pos hb', if_pos hb, if_pos hb', if_pos hb, if_pos hb', if_pos hb, if_pos hb', Int.toNat_natCast, Int.toNat_natCast, kc194, rI_some, h1, g1, h2, g2]
      by_cases q1 : μ 19 k 0 = -1
      · rw [b01_t q1, if_neg n10, if_pos q1]; exact mw2_same _ h
      rw [b01_f q1, if_pos rfl, if_neg q1, kc194, rI_some]
      by_cases q2 : μ 19 l 0 = -1
      · rw [b01_t q2, if_neg n10, if_pos q2]; exact mw2_same _ h
      rw [b01_f q2, if_pos rfl, if_neg q2]
      by_cases q3 : ¬ μ 19 k 0 = μ 19 l 0
      · rw [if_neg q3, if_neg q3]; exact mw2_same _ h
      have q3 := Classical.not_not.mp q3
      rw [if_pos q3, if_pos q3]
      by_cases q4 : n < 0
      · rw [if_pos q4, if_pos q4]; exact mw2_same _ h
      rw [if_neg q4, if_neg q4, kc44, rI_some, wi (z := μ 19 k 1 - n) (by omega) (by omega)]
      by_cases q5 : 0 ≤ i ∧ i ≤ μ 19 k 1 - n
      · rw [b01_t q5, if_neg n10, if_neg (show ¬ i < 0 by omega), kc44, rI_some, wi (z := μ 19 l 1 - n) (by omega) (by omega), wi (z := μ 19 k 1 - i) (by omega) (by omega)]
        by_cases q6 : 0 ≤ j ∧ j ≤ μ 19 l 1 - n
        · obtain ⟨n', rfl⟩ : ∃ n' : Nat, n = n' := ⟨n.toNat, by omega⟩
          obtain ⟨i', rfl⟩ : ∃ i' : Nat, i = i' := ⟨i.toNat, by omega⟩
          obtain ⟨j', rfl⟩ : ∃ j' : Nat, j = j' := ⟨j.toNat, by omega⟩
          have hi40 : i' + n' ≤ 40 := by omega
          have hj40 : j' + n' ≤ 40 := by omega
          rw [b01_t q6, if_neg n10, if_neg (show ¬ (j' : Int) < 0 by omega), if_neg (show ¬ μ 19 k 1 < (i' : Int) by omega), if_neg (show ¬ μ 19 l 1 < (j' : Int) by omega), if_neg (show ¬ μ 19 k 1 - (i' : Int) < (n' : Int) by omega), wi (z := μ 19 l 1 - (j' : Int)) (by omega) (by omega), if_neg (show ¬ μ 19 l 1 - (j' : Int) < (n' : Int) by omega), if_pos (show (0 : Int) ≤ (n' : Int) ∧ (0 : Int) ≤ (i' : Int) ∧ (0 : Int) ≤ (j' : Int) ∧ (i' : Int) + (n' : Int) ≤ 40 ∧ (j' : Int) + (n' : Int) ≤ 40 by omega), Int.toNat_natCast, Int.toNat_natCast, Int.toNat_natCast, w40' k i' hk (by omega), w40' l j' hl (by omega)]
          obtain ⟨x, ρ1, e, rfl, f1, f2⟩ := kd159 (d + 19) n' (40 * k + i') (40 * l + j') (by omega) (by omega) ρ (qC l) (fun r hr => by simp [qC]; omega) n' 0 (some (v_i (k : Int))) (some (v_i (i' : Int))) (some (v_i (l : Int))) (some (v_i (j' : Int))) none ρ (by omega) fr_rf (fun p => ⟨fun w => by omega, fun _ => rfl⟩)
          exact ⟨_, _, ρ1, rfl, e, copy_inv h hk hl hi40 hj40 f1 f2⟩
        · rw [b01_f q6, if_pos rfl]
          by_cases j0 : j < 0
          · rw [if_pos j0]; exact mw2_same _ h
          rw [if_neg j0, if_neg (show ¬ μ 19 k 1 < i by omega)]
          by_cases j1 : μ 19 l 1 < j
          · rw [if_pos j1]; exact mw2_same _ h
          rw [if_neg j1, if_neg (show ¬ μ 19 k 1 - i < n by omega), wi (z := μ 19 l 1 - j) (by omega) (by omega), if_pos (show μ 19 l 1 - j < n by omega)]
          exact mw2_same _ h
      · rw [b01_f q5, if_pos rfl]
        by_cases i0 : i < 0
        · rw [if_pos i0]; exact mw2_same _ h
        rw [if_neg i0]
        by_cases j0 : j < 0
        · rw [if_pos j0]; exact mw2_same _ h
        rw [if_neg j0]
        by_cases i1 : μ 19 k 1 < i
        · rw [if_pos i1]; exact mw2_same _ h
        rw [if_neg i1]
        by_cases j1 : μ 19 l 1 < j
        · rw [if_pos j1]; exact mw2_same _ h
        rw [if_neg j1, wi (z := μ 19 k 1 - i) (by omega) (by omega), if_pos (show μ 19 k 1 - i < n by omega)]
        exact mw2_same _ h
    · rw [b01_f q', if_pos rfl, if_pos rfl]; exact mw2_same _ h
  · rw [b01_f q, if_pos rfl, if_pos rfl]; exact mw2_same _ h
