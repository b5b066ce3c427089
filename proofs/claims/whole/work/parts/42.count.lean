/-! counts over a day -/
def pMany (f : Nat → Int) (v : Int) : Nat → Int
  | 0 => 0
  | k + 1 => if f k = v then pMany f v k + 1 else pMany f v k
def pWt (f b c : Nat → Int) (a : Nat) : Int := if f a = 2 then mj_w (b a - c a) else -1
def pAll (f b c : Nat → Int) : Nat → Int
  | 0 => 0
  | k + 1 => if f k = 2 then mj_w (pAll f b c k + pWt f b c k) else pAll f b c k
def pMax (g : Nat → Int) : Nat → Int
  | 0 => 0
  | k + 1 => if pMax g k < g k then g k else pMax g k
def pSum (g : Nat → Int) : Nat → Int
  | 0 => 0
  | k + 1 => mj_w (pSum g k + g k)
theorem pMany_s (f : Nat → Int) (v : Int) (k : Nat) : pMany f v (k + 1) = if f k = v then pMany f v k + 1 else pMany f v k := rfl
theorem pMax_s (g : Nat → Int) (k : Nat) : pMax g (k + 1) = if pMax g k < g k then g k else pMax g k := rfl
theorem pAll_s (f b c : Nat → Int) (k : Nat) : pAll f b c (k + 1) = if f k = 2 then mj_w (pAll f b c k + pWt f b c k) else pAll f b c k := rfl
theorem pMany_in (f : Nat → Int) (v : Int) : ∀ k, 0 ≤ pMany f v k ∧ pMany f v k ≤ k
  | 0 => ⟨Int.le_refl _, Int.le_refl _⟩
  | k + 1 => by
    have := pMany_in f v k
    unfold pMany
    split <;> omega
theorem pMany_cg {f g : Nat → Int} {v : Int} : ∀ {k : Nat}, (∀ a, a < k → f a = g a) → pMany f v k = pMany g v k
  | 0, _ => rfl
  | k + 1, h => by
    unfold pMany
    rw [h k (Nat.lt_succ_self k), pMany_cg (fun a ha => h a (Nat.lt_succ_of_lt ha))]
theorem pAll_in (f b c : Nat → Int) : ∀ k, mj_n32 (pAll f b c k)
  | 0 => mj_n0
  | k + 1 => by
    unfold pAll
    split
    · exact mj_w_in _
    · exact pAll_in f b c k
theorem pAll_cg {f f' b b' c c' : Nat → Int} : ∀ {k : Nat}, (∀ a, a < k → f a = f' a ∧ b a = b' a ∧ c a = c' a) → pAll f b c k = pAll f' b' c' k
  | 0, _ => rfl
  | k + 1, h => by
    obtain ⟨h1, h2, h3⟩ := h k (Nat.lt_succ_self k)
    unfold pAll pWt
    rw [h1, h2, h3, pAll_cg (fun a ha => h a (Nat.lt_succ_of_lt ha))]
theorem pMax_cg {f g : Nat → Int} : ∀ {k : Nat}, (∀ a, a < k → f a = g a) → pMax f k = pMax g k
  | 0, _ => rfl
  | k + 1, h => by
    unfold pMax
    rw [h k (Nat.lt_succ_self k), pMax_cg (fun a ha => h a (Nat.lt_succ_of_lt ha))]
theorem pSum_in (g : Nat → Int) : ∀ k, mj_n32 (pSum g k)
  | 0 => mj_n0
  | k + 1 => mj_w_in _

theorem wk (k : Nat) {m : Nat} (h : k < m) (h2 : m ≤ 100000) : mj_w ((k : Int) + 1) = ((k + 1 : Nat) : Int) := by
  rw [wi (by omega) (by omega)]; omega

theorem kc178 (d a : Nat) (μ : mj_M) (h : a < 16) : kc (d + 1) 178 [v_r 21 0, v_i (a : Int)] μ = some (some (v_i (pWt (μ 22 0) (μ 23 0) (μ 5 2) a)), μ) := by
  rw [ke178_0, if_pos (by omega), Int.toNat_natCast]
  unfold pWt
  split
  · rw [if_pos (by omega), if_pos (by omega)]
  · rfl
theorem kc113 (d a : Nat) (μ : mj_M) (h : a < 17) : kc (d + 1) 113 [v_r 33 0, v_i (a : Int)] μ = some (some (v_i (pWt (μ 53 0) (μ 55 0) (μ 39 0) a)), μ) := by
  rw [ke113_0, if_pos (by omega), Int.toNat_natCast]
  unfold pWt
  split
  · rw [if_pos (by omega), if_pos (by omega)]
  · rfl
theorem kc180 (d : Nat) (v : Int) (μ : mj_M) {m : Nat} (hm : μ 1 2 4 = (m : Int)) (h : m ≤ 16) : kc (d + 1) 180 [v_r 21 0, v_i v] μ = some (some (v_i (pMany (μ 22 0) v m)), μ) := by
  rw [ke180_0]
  refine loop_up (P := fun k => kd d 180 1 [some (v_r 21 0), some (v_i v), some (v_i (pMany (μ 22 0) v k)), some (v_i (k : Int))] [] μ = some (some (v_i (pMany (μ 22 0) v m)), μ)) (m := m) ?_ ?_ 0 (Nat.zero_le _)
  · rw [ke180_1, hm, if_neg (by omega)]
  · intro k hk ih
    have hb := pMany_in (μ 22 0) v k
    rw [ke180_1, hm, if_pos (by omega), if_pos (by omega), Int.toNat_natCast, wk k hk (by omega)]
    rw [pMany_s] at ih
    by_cases q : μ 22 0 k = v
    · rw [if_pos q] at ih ⊢
      rw [wi (by omega) (by omega)]
      exact ih
    · rw [if_neg q] at ih ⊢
      exact ih
theorem kc115 (d : Nat) (v : Int) (μ : mj_M) {m : Nat} (hm : μ 33 0 5 = (m : Int)) (h : m ≤ 17) : kc (d + 1) 115 [v_r 33 0, v_i v] μ = some (some (v_i (pMany (μ 53 0) v m)), μ) := by
  rw [ke115_0]
  refine loop_up (P := fun k => kd d 115 1 [some (v_r 33 0), some (v_i v), some (v_i (pMany (μ 53 0) v k)), some (v_i (k : Int))] [] μ = some (some (v_i (pMany (μ 53 0) v m)), μ)) (m := m) ?_ ?_ 0 (Nat.zero_le _)
  · rw [ke115_1, hm, if_neg (by omega)]
  · intro k hk ih
    have hb := pMany_in (μ 53 0) v k
    rw [ke115_1, hm, if_pos (by omega), if_pos (by omega), Int.toNat_natCast, wk k hk (by omega)]
    rw [pMany_s] at ih
    by_cases q : μ 53 0 k = v
    · rw [if_pos q] at ih ⊢
      rw [wi (by omega) (by omega)]
      exact ih
    · rw [if_neg q] at ih ⊢
      rw [Int.add_zero, wi (by omega) (by omega)]
      exact ih
theorem kc181 (d : Nat) (μ : mj_M) {m : Nat} (hm : μ 1 2 4 = (m : Int)) (h : m ≤ 16) : kc (d + 2) 181 [v_r 21 0] μ = some (some (v_i (pAll (μ 22 0) (μ 23 0) (μ 5 2) m)), μ) := by
  rw [ke181_0]
  refine loop_up (P := fun k => kd (d + 1) 181 1 [some (v_r 21 0), some (v_i (pAll (μ 22 0) (μ 23 0) (μ 5 2) k)), some (v_i (k : Int))] [] μ = some (some (v_i (pAll (μ 22 0) (μ 23 0) (μ 5 2) m)), μ)) (m := m) ?_ ?_ 0 (Nat.zero_le _)
  · rw [ke181_1, hm, if_neg (by omega)]
  · intro k hk ih
    rw [ke181_1, hm, if_pos (by omega), if_pos (by omega), Int.toNat_natCast, wk k hk (by omega), kc178 d k μ (by omega), rI_some]
    by_cases q : μ 22 0 k = 2
    · rw [if_pos q]
      rw [pAll_s, if_pos q] at ih
      exact ih
    · rw [if_neg q]
      rw [pAll_s, if_neg q] at ih
      exact ih
theorem kc118 (d : Nat) (μ : mj_M) {m : Nat} (hm : μ 33 0 5 = (m : Int)) (h : m ≤ 17) : kc (d + 2) 118 [v_r 33 0] μ = some (some (v_i (pAll (μ 53 0) (μ 55 0) (μ 39 0) m)), μ) := by
  rw [ke118_0]
  refine loop_up (P := fun k => kd (d + 1) 118 1 [some (v_r 33 0), some (v_i (pAll (μ 53 0) (μ 55 0) (μ 39 0) k)), some (v_i (k : Int))] [] μ = some (some (v_i (pAll (μ 53 0) (μ 55 0) (μ 39 0) m)), μ)) (m := m) ?_ ?_ 0 (Nat.zero_le _)
  · rw [ke118_1, hm, if_neg (by omega)]
  · intro k hk ih
    rw [ke118_1, hm, if_pos (by omega), if_pos (by omega), Int.toNat_natCast, wk k hk (by omega), kc113 d k μ (by omega), rI_some]
    by_cases q : μ 53 0 k = 2
    · rw [if_pos q]
      rw [pAll_s, if_pos q] at ih
      exact ih
    · rw [if_neg q]
      rw [pAll_s, if_neg q] at ih
      rw [Int.add_zero, mj_w_id (pAll_in _ _ _ k)]
      exact ih
theorem kc182 (d : Nat) (μ : mj_M) {m : Nat} (hm : μ 1 2 4 = (m : Int)) (h : m ≤ 16) : kc (d + 2) 182 [v_r 21 0] μ = some (some (v_i (pMax (pWt (μ 22 0) (μ 23 0) (μ 5 2)) m)), μ) := by
  rw [ke182_0]
  refine loop_up (P := fun k => kd (d + 1) 182 1 [some (v_r 21 0), some (v_i (pMax (pWt (μ 22 0) (μ 23 0) (μ 5 2)) k)), some (v_i (k : Int))] [] μ = some (some (v_i (pMax (pWt (μ 22 0) (μ 23 0) (μ 5 2)) m)), μ)) (m := m) ?_ ?_ 0 (Nat.zero_le _)
  · rw [ke182_1, hm, if_neg (by omega)]
  · intro k hk ih
    rw [ke182_1, hm, if_pos (by omega), kc178 d k μ (by omega), rI_some, wk k hk (by omega)]
    exact ih
theorem kc116 (d : Nat) (μ : mj_M) {m : Nat} (hm : μ 33 0 5 = (m : Int)) (h : m ≤ 17) : kc (d + 2) 116 [v_r 33 0] μ = some (some (v_i (pMax (pWt (μ 53 0) (μ 55 0) (μ 39 0)) m)), μ) := by
  rw [ke116_0]
  refine loop_up (P := fun k => kd (d + 1) 116 1 [some (v_r 33 0), some (v_i (pMax (pWt (μ 53 0) (μ 55 0) (μ 39 0)) k)), some (v_i (k : Int))] [] μ = some (some (v_i (pMax (pWt (μ 53 0) (μ 55 0) (μ 39 0)) m)), μ)) (m := m) ?_ ?_ 0 (Nat.zero_le _)
  · rw [ke116_1, hm, if_neg (by omega)]
  · intro k hk ih
    rw [ke116_1, hm, if_pos (by omega), kc113 d k μ (by omega), rI_some, wk k hk (by omega)]
    rw [pMax_s] at ih
    split
    · rename_i q
      rw [kc113 d k μ (by omega), rI_some]
      rw [if_pos q] at ih
      exact ih
    · rename_i q
      rw [if_neg q] at ih
      exact ih
theorem kc183 (d : Nat) (μ : mj_M) {m : Nat} (hm : μ 1 2 4 = (m : Int)) (h : m ≤ 16) : kc (d + 1) 183 [v_r 21 0] μ = some (some (v_i (pMax (μ 24 0) m)), μ) := by
  rw [ke183_0]
  refine loop_up (P := fun k => kd d 183 1 [some (v_r 21 0), some (v_i (pMax (μ 24 0) k)), some (v_i (k : Int))] [] μ = some (some (v_i (pMax (μ 24 0) m)), μ)) (m := m) ?_ ?_ 0 (Nat.zero_le _)
  · rw [ke183_1, hm, if_neg (by omega)]
  · intro k hk ih
    rw [ke183_1, hm, if_pos (by omega), if_pos (by omega), Int.toNat_natCast, wk k hk (by omega)]
    exact ih
theorem kc117 (d : Nat) (μ : mj_M) {m : Nat} (hm : μ 33 0 5 = (m : Int)) (h : m ≤ 17) : kc (d + 1) 117 [v_r 33 0] μ = some (some (v_i (pMax (μ 56 0) m)), μ) := by
  rw [ke117_0]
  refine loop_up (P := fun k => kd d 117 1 [some (v_r 33 0), some (v_i (pMax (μ 56 0) k)), some (v_i (k : Int))] [] μ = some (some (v_i (pMax (μ 56 0) m)), μ)) (m := m) ?_ ?_ 0 (Nat.zero_le _)
  · rw [ke117_1, hm, if_neg (by omega)]
  · intro k hk ih
    rw [ke117_1, hm, if_pos (by omega), if_pos (by omega), Int.toNat_natCast, wk k hk (by omega)]
    rw [pMax_s] at ih
    split
    · rename_i q
      rw [if_pos (by omega)]
      rw [if_pos q] at ih
      exact ih
    · rename_i q
      rw [if_neg q] at ih
      exact ih
theorem kc184 (d : Nat) (μ : mj_M) {n : Nat} (hn : μ 1 2 0 = (n : Int)) (h : n ≤ 4) : kc (d + 1) 184 [v_r 21 0] μ = some (some (v_i (pSum (μ 27 0) n)), μ) := by
  rw [ke184_0]
  refine loop_up (P := fun k => kd d 184 1 [some (v_r 21 0), some (v_i (pSum (μ 27 0) k)), some (v_i (k : Int))] [] μ = some (some (v_i (pSum (μ 27 0) n)), μ)) (m := n) ?_ ?_ 0 (Nat.zero_le _)
  · rw [ke184_1, hn, if_neg (by omega)]
  · intro k hk ih
    rw [ke184_1, hn, if_pos (by omega), if_pos (by omega), Int.toNat_natCast, wk k hk (by omega)]
    exact ih
def pHarm (f b c : Nat → Int) (m : Nat) : Int := mj_w (pAll f b c m + mj_w (60 * mj_w ((m : Int) - pMany f 2 m)))
theorem kc185 (d : Nat) (μ : mj_M) {m : Nat} (hm : μ 1 2 4 = (m : Int)) (h : m ≤ 16) : kc (d + 3) 185 [v_r 21 0] μ = some (some (v_i (pHarm (μ 22 0) (μ 23 0) (μ 5 2) m)), μ) := by
  rw [ke185_0, kc181 d μ hm h, rI_some, kc180 (d + 1) 2 μ hm h, rI_some, hm]
  rfl
theorem kc186 (d : Nat) (v : Int) (μ : mj_M) {m : Nat} (hm : μ 1 2 4 = (m : Int)) (h : m ≤ 16) : kc (d + 2) 186 [v_r 21 0, v_i v] μ = some (some (v_i (b01 (pMax (μ 24 0) m ≤ v ∧ pMany (μ 22 0) 1 m = 0))), μ) := by
  rw [ke186_0, kc183 d μ hm h, rI_some, kc180 d 1 μ hm h, rI_some]
  unfold b01
  by_cases q : v < pMax (μ 24 0) m
  · rw [if_pos q, if_neg (by omega)]
  · rw [if_neg q]
    by_cases q2 : pMany (μ 22 0) 1 m = 0
    · rw [if_pos q2, if_pos ⟨by omega, q2⟩]
    · rw [if_neg q2, if_neg (fun w => q2 w.2)]
/-- what sum() tells -/
def pTot (f b e c : Nat → Int) (m : Nat) (idle : Int) (what : Int) : Int :=
  if what = 0 then pMany f 2 m else if what = 1 then pAll f b c m else if what = 2 then pMax (pWt f b c) m else if what = 3 then pMax e m else if what = 4 then pMany f 3 m else if what = 5 then pMany f 4 m else if what = 6 then pMany f 1 m else idle
theorem kc187 (d : Nat) (v : Int) (μ : mj_M) {m n : Nat} (hm : μ 1 2 4 = (m : Int)) (h : m ≤ 16) (hn : μ 1 2 0 = (n : Int)) (h2 : n ≤ 4) : kc (d + 3) 187 [v_r 21 0, v_i v] μ = some (some (v_i (pTot (μ 22 0) (μ 23 0) (μ 24 0) (μ 5 2) m (pSum (μ 27 0) n) v)), μ) := by
  rw [ke187_0]
  rw [kc180 (d + 1) 2 μ hm h, kc180 (d + 1) 3 μ hm h, kc180 (d + 1) 4 μ hm h, kc180 (d + 1) 1 μ hm h, kc181 d μ hm h, kc182 d μ hm h, kc183 (d + 1) μ hm h, kc184 (d + 1) μ hn h2]
  simp only [rI_some]
  unfold pTot
  repeat' split
  all_goals rfl
theorem kc119 (d : Nat) (v : Int) (μ : mj_M) {m : Nat} (hm : μ 33 0 5 = (m : Int)) (h : m ≤ 17) : kc (d + 3) 119 [v_r 33 0, v_i v] μ = some (some (v_i (pTot (μ 53 0) (μ 55 0) (μ 56 0) (μ 39 0) m (mj_w (mj_w (mj_w (μ 60 0 0 + μ 60 0 1) + μ 60 0 2) + μ 60 0 3)) v)), μ) := by
  rw [ke119_0]
  rw [kc115 (d + 1) 2 μ hm h, kc115 (d + 1) 3 μ hm h, kc115 (d + 1) 4 μ hm h, kc115 (d + 1) 1 μ hm h, kc118 d μ hm h, kc116 d μ hm h, kc117 (d + 1) μ hm h]
  simp only [rI_some]
  unfold pTot
  repeat' split
  all_goals rfl
