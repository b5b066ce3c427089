/-! tokens: where one starts and ends, which it is -/
def sk (T : Nat → Int) : Nat → Nat → Nat
  | 0, p => p
  | j + 1, p => if T p = 32 ∨ T p = 10 then sk T j (p + 1) else p
def rn (T : Nat → Int) (lo hi : Int) : Nat → Nat → Nat
  | 0, p => p
  | j + 1, p => if lo ≤ T p ∧ T p ≤ hi then rn T lo hi j (p + 1) else p
theorem sk_b (T : Nat → Int) : ∀ j p, p ≤ sk T j p ∧ sk T j p ≤ p + j
  | 0, p => ⟨Nat.le_refl _, Nat.le_refl _⟩
  | j + 1, p => by
    have := sk_b T j (p + 1)
    unfold sk
    split <;> omega
theorem rn_b (T : Nat → Int) (lo hi : Int) : ∀ j p, p ≤ rn T lo hi j p ∧ rn T lo hi j p ≤ p + j
  | 0, p => ⟨Nat.le_refl _, Nat.le_refl _⟩
  | j + 1, p => by
    have := rn_b T lo hi j (p + 1)
    unfold rn
    split <;> omega
theorem rn_in (T : Nat → Int) (lo hi : Int) : ∀ j p i, p ≤ i → i < rn T lo hi j p → lo ≤ T i ∧ T i ≤ hi
  | 0, p, i, h1, h2 => absurd (Nat.lt_of_le_of_lt h1 h2) (Nat.lt_irrefl p)
  | j + 1, p, i, h1, h2 => by
    unfold rn at h2
    by_cases q : lo ≤ T p ∧ T p ≤ hi
    · rw [if_pos q] at h2
      by_cases e : i = p
      · rw [e]; exact q
      · exact rn_in T lo hi j (p + 1) i (by omega) h2
    · rw [if_neg q] at h2
      omega
theorem rn_pos {T : Nat → Int} {lo hi : Int} {j p : Nat} (h : lo ≤ T p ∧ T p ≤ hi) (hj : 0 < j) : p < rn T lo hi j p := by
  obtain ⟨j, rfl⟩ : ∃ i, j = i + 1 := ⟨j - 1, by omega⟩
  have := rn_b T lo hi j (p + 1)
  unfold rn
  rw [if_pos h]
  omega
def wordsC : List Int := [116, 97, 107, 101, 115, 32, 119, 97, 105, 116, 115, 32, 109, 105, 110, 100, 115, 32, 111, 114, 32, 32, 32, 32, 97, 110, 100, 32, 32, 32, 110, 111, 116, 32, 32, 32, 98, 97, 115, 101, 32, 32, 109, 111, 114, 101, 32, 32, 115, 108, 111, 119, 32, 32, 119, 97, 105, 116, 32, 32, 115, 97, 105, 100, 32, 32, 108, 101, 116, 116, 101, 114]
def Wt (n : Nat) : Int := match mj_nth wordsC n with
  | some x => x
  | none => 0
theorem Wt_n : ∀ n, n < 72 → mj_nth wordsC n = some (Wt n) := by decide +kernel
theorem tb_w (κ : Int → mj_R) (n : Nat) (h : n < 72) : mj_tb4 mk_TB 0 (n : Int) κ = κ (Wt n) := by
  have e : mj_nth mk_TB 0 = some wordsC := rfl
  unfold mj_tb4
  rw [e]
  dsimp only
  rw [Int.toNat_natCast, Wt_n n h]
  dsimp only
  rw [if_pos (Int.natCast_nonneg n)]
/-- a word's letters, blanks behind them -/
def pd (T : Nat → Int) (s e i : Nat) : Int := if s + i < e then T (s + i) else 32
abbrev mCw (f : Nat → Int) (w : Nat) : Prop := ∀ i, i < 6 → Wt (6 * w + i) = f i
abbrev mRw (f : Nat → Int) (k : Nat) : Prop := ∀ i, i < 8 → Wr (8 * k + i) = f i
def kap (w : Nat) : Nat := if w < 3 then w else if w < 6 then w + 6 else w - 3
theorem kap_w : ∀ w, w < 12 → ∀ i, i < 8 → Wr (8 * kap w + i) = if i < 6 then Wt (6 * w + i) else 32 := by decide +kernel
theorem kap_s : ∀ k, k < 12 → ∃ w, w < 12 ∧ kap w = k := by decide +kernel
theorem kap_lt : ∀ w, w < 12 → kap w < 12 := by decide
theorem Wt_inj : ∀ w, w < 12 → ∀ v, v < 12 → (∀ i, i < 6 → Wt (6 * w + i) = Wt (6 * v + i)) → w = v := by decide +kernel
theorem m_wr {T : Nat → Int} {s e : Nat} (hl : ∀ i, s ≤ i → i < e → 97 ≤ T i ∧ T i ≤ 122) (w : Nat) (hw : w < 12) : (e - s ≤ 8 ∧ mRw (pd T s e) (kap w)) ↔ (e - s ≤ 6 ∧ mCw (pd T s e) w) := by
  constructor
  · rintro ⟨h1, h2⟩
    have h6 := h2 6 (by decide)
    rw [kap_w w hw 6 (by decide), if_neg (by decide)] at h6
    have h7 := h2 7 (by decide)
    rw [kap_w w hw 7 (by decide), if_neg (by decide)] at h7
    refine ⟨?_, fun i hi => ?_⟩
    · by_cases q : s + 6 < e
      · have := hl (s + 6) (by omega) q
        unfold pd at h6
        rw [if_pos q] at h6
        omega
      · omega
    · have := h2 i (by omega)
      rw [kap_w w hw i (by omega), if_pos hi] at this
      exact this
  · rintro ⟨h1, h2⟩
    refine ⟨by omega, fun i hi => ?_⟩
    rw [kap_w w hw i hi]
    by_cases q : i < 6
    · rw [if_pos q]; exact h2 i q
    · rw [if_neg q]
      unfold pd
      rw [if_neg (by omega)]
theorem pSr_sp (P : Nat → Prop) [∀ k, Decidable (P k)] (v : Nat → Int) : ∀ j k, (pSr P v j k = -1 ∧ ∀ i, k ≤ i → i < k + j → ¬ P i) ∨ ∃ i, k ≤ i ∧ i < k + j ∧ P i ∧ pSr P v j k = v i
  | 0, k => Or.inl ⟨rfl, fun i h1 h2 => by omega⟩
  | j + 1, k => by
    have hp : pSr P v (j + 1) k = if P k then v k else pSr P v j (k + 1) := rfl
    by_cases q : P k
    · rw [if_pos q] at hp
      exact Or.inr ⟨k, Nat.le_refl _, by omega, q, hp⟩
    · rw [if_neg q] at hp
      rcases pSr_sp P v j (k + 1) with ⟨h1, h2⟩ | ⟨i, h1, h2, h3, h4⟩
      · refine Or.inl ⟨hp.trans h1, fun i h3 h4 => ?_⟩
        by_cases e : i = k
        · rw [e]; exact q
        · exact h2 i (by omega) (by omega)
      · exact Or.inr ⟨i, by omega, by omega, h3, hp.trans h4⟩
def vN (w : Nat) : Int := (w : Int)
/-- which word: 0 .. 11; 15: none -/
def wC (T : Nat → Int) (s e : Nat) : Int := if 6 < e - s then 15 else if pSr (mCw (pd T s e)) vN 12 0 = -1 then 15 else pSr (mCw (pd T s e)) vN 12 0
theorem wC_sp (T : Nat → Int) (s e : Nat) : (wC T s e = 15 ∧ (e - s ≤ 6 → ∀ w, w < 12 → ¬ mCw (pd T s e) w)) ∨ ∃ w, w < 12 ∧ e - s ≤ 6 ∧ mCw (pd T s e) w ∧ wC T s e = (w : Int) := by
  unfold wC
  by_cases q : 6 < e - s
  · rw [if_pos q]; exact Or.inl ⟨rfl, fun h => by omega⟩
  · rw [if_neg q]
    rcases pSr_sp (mCw (pd T s e)) vN 12 0 with ⟨h1, h2⟩ | ⟨i, h1, h2, h3, h4⟩
    · rw [if_pos h1]; exact Or.inl ⟨rfl, fun _ w hw => h2 w (Nat.zero_le _) (by omega)⟩
    · have h5 : pSr (mCw (pd T s e)) vN 12 0 = (i : Int) := h4
      rw [h5, if_neg (by omega)]
      exact Or.inr ⟨i, by omega, by omega, h3, rfl⟩
def isSg (b : Int) : Prop := b = 40 ∨ b = 41 ∨ b = 59 ∨ b = 43 ∨ b = 45 ∨ b = 42 ∨ b = 60 ∨ b = 61
/-- a number's value -/
def nv (T : Nat → Int) : Nat → Nat → Int → Int
  | 0, _, v => v
  | j + 1, p, v => nv T j (p + 1) (mj_w (mj_w (mj_w (10 * v) + T p) - 48))
theorem nv_s (T : Nat → Int) (j p : Nat) (v : Int) : nv T (j + 1) p v = nv T j (p + 1) (mj_w (mj_w (mj_w (10 * v) + T p) - 48)) := rfl
theorem nv_b {T : Nat → Int} : ∀ (j p : Nat) (v B : Int), (∀ i, p ≤ i → i < p + j → 48 ≤ T i ∧ T i ≤ 57) → 0 ≤ v → v < B → B * 10 ^ j ≤ 10000 → 0 ≤ nv T j p v ∧ nv T j p v < B * 10 ^ j
  | 0, p, v, B, _, h1, h2, _ => by
    rw [Int.pow_zero, Int.mul_one]; exact ⟨h1, h2⟩
  | j + 1, p, v, B, hT, h1, h2, h3 => by
    have hd := hT p (Nat.le_refl _) (by omega)
    have e : B * 10 ^ (j + 1) = (10 * B) * 10 ^ j := by rw [Int.pow_succ]; ac_rfl
    have hp : (1 : Int) ≤ 10 ^ j := by
      have := Int.pow_pos (n := 10) (m := j) (by decide)
      omega
    have hB : 10 * B ≤ 10000 := by
      have : 10 * B * 1 ≤ 10 * B * 10 ^ j := Int.mul_le_mul_of_nonneg_left hp (by omega)
      omega
    rw [nv_s, e, wi (z := 10 * v) (by omega) (by omega), wi (z := 10 * v + T p) (by omega) (by omega), wi (by omega) (by omega)]
    exact nv_b j (p + 1) _ (10 * B) (fun i a b => hT i (by omega) (by omega)) (by omega) (by omega) (by omega)
/-- the token from place p on: where it starts, which it is (the class's numbers), where it ends, its number -/
def lS (T : Nat → Int) (z p : Nat) : Nat := sk T (z - p) p
def lE (T : Nat → Int) (z p : Nat) : Nat := if lS T z p = z then z else if 97 ≤ T (lS T z p) ∧ T (lS T z p) ≤ 122 then rn T 97 122 (z - lS T z p) (lS T z p) else if 48 ≤ T (lS T z p) ∧ T (lS T z p) ≤ 57 then rn T 48 57 (z - lS T z p) (lS T z p) else lS T z p + 1
noncomputable def lK (T : Nat → Int) (z p : Nat) : Int := if lS T z p = z then 14 else if 97 ≤ T (lS T z p) ∧ T (lS T z p) ≤ 122 then wC T (lS T z p) (lE T z p) else if 48 ≤ T (lS T z p) ∧ T (lS T z p) ≤ 57 then (if 4 < lE T z p - lS T z p then 15 else 13) else @ite Int (isSg (T (lS T z p))) (Classical.propDecidable _) (T (lS T z p)) 15
def lV (T : Nat → Int) (z p : Nat) : Int := nv T (lE T z p - lS T z p) (lS T z p) 0
theorem lS_b {T : Nat → Int} {z p : Nat} (h : p ≤ z) : p ≤ lS T z p ∧ lS T z p ≤ z := by
  have := sk_b T (z - p) p
  unfold lS
  omega
theorem lE_b {T : Nat → Int} {z p : Nat} (h : p ≤ z) : lS T z p ≤ lE T z p ∧ lE T z p ≤ z ∧ (lS T z p ≠ z → lS T z p < lE T z p) := by
  have hs := lS_b (T := T) h
  unfold lE
  by_cases q : lS T z p = z
  · rw [if_pos q]; exact ⟨hs.2, Nat.le_refl _, fun w => absurd q w⟩
  rw [if_neg q]
  by_cases q1 : 97 ≤ T (lS T z p) ∧ T (lS T z p) ≤ 122
  · rw [if_pos q1]
    have h1 := rn_b T 97 122 (z - lS T z p) (lS T z p)
    have h2 := rn_pos (j := z - lS T z p) q1 (by omega)
    omega
  rw [if_neg q1]
  by_cases q2 : 48 ≤ T (lS T z p) ∧ T (lS T z p) ≤ 57
  · rw [if_pos q2]
    have h1 := rn_b T 48 57 (z - lS T z p) (lS T z p)
    have h2 := rn_pos (j := z - lS T z p) q2 (by omega)
    omega
  rw [if_neg q2]
  omega
theorem lK_end {T : Nat → Int} {z p : Nat} (h : lS T z p = z) : lK T z p = 14 := if_pos h
/-- the codes that there are -/
def isTk (c : Int) : Prop := (0 ≤ c ∧ c < 12) ∨ c = 13 ∨ c = 14 ∨ c = 15 ∨ isSg c
theorem lK_tk (T : Nat → Int) (z p : Nat) : isTk (lK T z p) := by
  unfold isTk lK
  split
  · omega
  split
  · rcases wC_sp T (lS T z p) (lE T z p) with ⟨h, -⟩ | ⟨w, h1, -, -, h2⟩
    · rw [h]; omega
    · rw [h2]; omega
  split
  · split <;> omega
  split
  · rename_i h; exact Or.inr (Or.inr (Or.inr (Or.inr h)))
  · omega
theorem lK_14 {T : Nat → Int} {z p : Nat} (h : lK T z p = 14) : lS T z p = z := by
  by_cases q : lS T z p = z
  · exact q
  exfalso
  unfold lK at h
  rw [if_neg q] at h
  split at h
  · rcases wC_sp T (lS T z p) (lE T z p) with ⟨h1, -⟩ | ⟨w, h1, -, -, h2⟩
    · omega
    · omega
  split at h
  · split at h <;> omega
  split at h
  · rename_i h3; unfold isSg at h3; omega
  · omega
theorem lK_13 {T : Nat → Int} {z p : Nat} (hp : p ≤ z) (h : lK T z p = 13) : 0 ≤ lV T z p ∧ lV T z p ≤ 9999 := by
  have hb := lE_b (T := T) hp
  have key : (∀ i, lS T z p ≤ i → i < lE T z p → 48 ≤ T i ∧ T i ≤ 57) ∧ lE T z p - lS T z p ≤ 4 := by
    unfold lK at h
    split at h
    · omega
    rename_i q0
    split at h
    · rcases wC_sp T (lS T z p) (lE T z p) with ⟨h1, -⟩ | ⟨w, h1, -, -, h2⟩
      · omega
      · omega
    rename_i q1
    split at h
    · rename_i q2
      split at h
      · omega
      · rename_i q3
        refine ⟨fun i h1 h2 => ?_, by omega⟩
        unfold lE at h2
        rw [if_neg q0, if_neg q1, if_pos q2] at h2
        exact rn_in T 48 57 _ _ i h1 h2
    split at h
    · rename_i h3; unfold isSg at h3; omega
    · omega
  have h4 : (1 : Int) * 10 ^ (lE T z p - lS T z p) ≤ 10000 := by
    have : lE T z p - lS T z p = 0 ∨ lE T z p - lS T z p = 1 ∨ lE T z p - lS T z p = 2 ∨ lE T z p - lS T z p = 3 ∨ lE T z p - lS T z p = 4 := by omega
    rcases this with e | e | e | e | e <;> rw [e] <;> decide
  have := nv_b (T := T) (lE T z p - lS T z p) (lS T z p) 0 1 (fun i h1 h2 => key.1 i h1 (by omega)) (Int.le_refl _) (by decide) h4
  unfold lV
  omega
