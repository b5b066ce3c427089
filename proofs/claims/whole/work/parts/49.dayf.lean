/-! the class: its rows, its bits, its line -/
def cS : Nat → Nat
  | 0 => 22
  | 1 => 28
  | 2 => 23
  | 3 => 24
  | 4 => 25
  | 5 => 26
  | 6 => 29
  | _ => 27
theorem cS_inj : ∀ r, r < 8 → ∀ r', r' < 8 → cS r = cS r' → r = r' := by decide
def zC (μ : mj_M) (I : pI) (Z : pZ) : Prop := ∀ r k, r < 8 → k < pW2 I r → μ (cS r) 0 k = Z r k
theorem zC_a {μ : mj_M} {I : pI} {Z : pZ} (h : zC μ I Z) {a : Nat} (ha : a < I.m) (r : Nat) (hr : r < 6) : μ (cS r) 0 a = Z r a := h r a (by omega) (by unfold pW2; rw [if_pos hr]; exact ha)
theorem zC_c {μ : mj_M} {I : pI} {Z : pZ} (h : zC μ I Z) {c : Nat} (hc : c < I.n) (r : Nat) (hr : ¬ r < 6) (hr' : r < 8) : μ (cS r) 0 c = Z r c := h r c hr' (by unfold pW2; rw [if_neg hr]; exact hc)
theorem zC_up {μ : mj_M} {I : pI} {Z : pZ} (h : zC μ I Z) (r k : Nat) (x : Int) (hr : r < 8) : zC (mj_up μ (cS r) 0 k x) I (zU Z r k x) := by
  intro r' k' hr' hk'
  unfold zU
  rw [up_ap]
  by_cases e : r' = r ∧ k' = k
  · rw [if_pos ⟨by rw [e.1], e.2, rfl⟩, if_pos e]
  · rw [if_neg (fun q => e ⟨cS_inj r' hr' r hr q.1, q.2.1⟩), if_neg e]; exact h r' k' hr' hk'
theorem zC_fr {l : List Nat} {μ μ' : mj_M} {I : pI} {Z : pZ} (h : zC μ I Z) (hf : fr (fS l) μ μ') (q : ∀ r, r < 8 → l.contains (cS r) = false) : zC μ' I Z := fun r k hr hk => by rw [fS_rd hf (q r hr)]; exact h r k hr hk
/-- the bits tell of all who wait -/
def wOK (μ : mj_M) (I : pI) (Z : pZ) : Prop := 0 ≤ μ 21 0 11 ∧ ∀ a, a < I.m → Z 0 a = 1 → (μ 21 0 11).toNat.testBit (Z 1 a).toNat = true
theorem bit_of : ∀ k, k < 4 → mj_w (1 * 2 ^ k) = ((2 ^ k : Nat) : Int) := by decide
theorem kc175 (d : Nat) (μ : mj_M) (I : pI) (t : Nat) (Z : pZ) (hI : iC μ 2 I t) (hO : iOK I) (hZ : zC μ I Z) (hz : ∀ a, a < I.m → 0 ≤ Z 1 a ∧ Z 1 a < 4) :
    mwV (kc (d + 1) 175 [v_r 21 0] μ) (fun μ' => wOK μ' I Z ∧ fr (fS [21]) μ μ' ∧ μ' 21 0 10 = μ 21 0 10) := by
  have hm := hO.m
  have main : ∀ j k (μ1 : mj_M), k + j = I.m → fr (fS [21]) μ μ1 → μ1 21 0 10 = μ 21 0 10 → 0 ≤ μ1 21 0 11 → (∀ a, a < k → Z 0 a = 1 → (μ1 21 0 11).toNat.testBit (Z 1 a).toNat = true) →
      mwV (kd d 175 1 [some (v_r 21 0), some (v_i (k : Int))] [] μ1) (fun μ' => wOK μ' I Z ∧ fr (fS [21]) μ μ' ∧ μ' 21 0 10 = μ 21 0 10) := by
    intro j
    induction j with
    | zero =>
      intro k μ1 hk hf h10 h0 hb
      have hI1 := iC_fr hI hf (by decide)
      have : k = I.m := by omega
      rw [ke175_1, hI1.m, if_neg (by omega)]
      exact mwV_ret ⟨⟨h0, fun a ha => hb a (by omega)⟩, hf, h10⟩
    | succ j ih =>
      intro k μ1 hk hf h10 h0 hb
      have hI1 := iC_fr hI hf (by decide)
      have hZ1 := zC_fr hZ hf (by decide)
      have hkm : k < I.m := by omega
      have hb16 : 0 ≤ (k : Int) ∧ (k : Int) < 16 := by omega
      have hw : mj_w ((k : Int) + 1) = ((k + 1 : Nat) : Int) := by rw [wi (by omega) (by omega)]; omega
      have h22 : μ1 22 0 k = Z 0 k := zC_a hZ1 hkm 0 (by decide)
      have h28 : μ1 28 0 k = Z 1 k := zC_a hZ1 hkm 1 (by decide)
      have hz1 := hz k hkm
      rw [ke175_1, hI1.m, if_pos (by omega), if_pos hb16, Int.toNat_natCast, h22, hw]
      by_cases q1 : Z 0 k = 1
      · rw [if_pos q1, if_pos hb16, h28, if_pos (by omega), bit_of (Z 1 k).toNat (by omega), if_pos ⟨h0, Int.natCast_nonneg _⟩]
        refine ih (k + 1) _ (by omega) (fr_tr hf (fr_up rfl)) (by rw [up_nk (by decide)]; exact h10) (by rw [up_eq]; exact Int.natCast_nonneg _) (fun a ha q => ?_)
        rw [up_eq, Int.toNat_natCast, Int.toNat_natCast, Nat.testBit_or]
        by_cases e : a = k
        · rw [e, Nat.testBit_two_pow_self, Bool.or_true]
        · rw [hb a (by omega) q, Bool.true_or]
      · rw [if_neg q1]
        refine ih (k + 1) _ (by omega) hf h10 h0 (fun a ha q => ?_)
        by_cases e : a = k
        · exact absurd (e ▸ q) q1
        · exact hb a (by omega) q
  rw [ke175_0]
  exact main I.m 0 _ (by omega) (fr_up rfl) (up_nk (by decide)) (by rw [up_eq]; decide) (fun a ha => absurd ha (Nat.not_lt_zero _))
/-- who is first, told by the line -/
theorem pKey_nn {I : pI} (hO : iOK I) {a : Nat} (ha : a < I.m) : 0 ≤ pRank I a ∧ pRank I a ≤ 99 := by
  have := hO.base a ha
  unfold pRank
  repeat' split
  all_goals omega
theorem pKey_mod {I : pI} (hO : iOK I) {a : Nat} (ha : a < I.m) : (pKey I a).tmod 16 = (a : Int) := by
  have h1 := pKey_nn hO ha
  have h2 := hO.comes a ha
  have h3 := hO.m
  unfold pKey
  rw [Int.tmod_eq_emod_of_nonneg (by omega)]
  omega
theorem pKey_inj {I : pI} (hO : iOK I) {a b : Nat} (ha : a < I.m) (hb : b < I.m) (h : pKey I a = pKey I b) : a = b := by
  have h1 := pKey_mod hO ha
  rw [h, pKey_mod hO hb] at h1
  omega
theorem pBest_min (P : Nat → Prop) [∀ k, Decidable (P k)] (key : Nat → Int) : ∀ k, (pBest P key k = -1 ∧ ∀ b, b < k → ¬ P b) ∨ ∃ i : Nat, i < k ∧ pBest P key k = (i : Int) ∧ P i ∧ ∀ b, b < k → P b → key i ≤ key b
  | 0 => Or.inl ⟨rfl, fun b hb => absurd hb (Nat.not_lt_zero _)⟩
  | k + 1 => by
    have ih := pBest_min P key k
    unfold pBest
    by_cases hp : P k
    · rw [if_pos hp]
      rcases ih with ⟨h1, h2⟩ | ⟨i, h1, h2, h3, h4⟩
      · rw [if_pos h1]
        exact Or.inr ⟨k, by omega, rfl, hp, fun b hb q => by
          by_cases e : b = k
          · rw [e]; exact Int.le_refl _
          · exact absurd q (h2 b (by omega))⟩
      · rw [if_neg (by rw [h2]; omega), h2, Int.toNat_natCast]
        by_cases e1 : key k < key i
        · rw [if_pos e1]
          exact Or.inr ⟨k, by omega, rfl, hp, fun b hb q => by
            by_cases e : b = k
            · rw [e]; exact Int.le_refl _
            · have := h4 b (by omega) q; omega⟩
        · rw [if_neg e1]
          exact Or.inr ⟨i, by omega, rfl, h3, fun b hb q => by
            by_cases e : b = k
            · rw [e]; omega
            · exact h4 b (by omega) q⟩
    · rw [if_neg hp]
      rcases ih with ⟨h1, h2⟩ | ⟨i, h1, h2, h3, h4⟩
      · exact Or.inl ⟨h1, fun b hb q => by
          by_cases e : b = k
          · exact hp (e ▸ q)
          · exact h2 b (by omega) q⟩
      · exact Or.inr ⟨i, by omega, h2, h3, fun b hb q => by
          by_cases e : b = k
          · exact absurd (e ▸ q) hp
          · exact h4 b (by omega) q⟩
theorem pFirst_none {I : pI} {Z : pZ} {c : Nat} (h : ∀ a, a < I.m → ¬ pFor I Z c a) : pFirst I Z c = -1 := by
  rcases pBest_min (pFor I Z c) (pKey I) I.m with h1 | ⟨i, h1, -, h3, -⟩
  · exact h1.1
  · exact absurd h3 (h i h1)
theorem pFirst_is {I : pI} {Z : pZ} {c a : Nat} (hO : iOK I) (ha : a < I.m) (hP : pFor I Z c a) (h : ∀ b, b < I.m → pFor I Z c b → pKey I a ≤ pKey I b) : pFirst I Z c = (a : Int) := by
  rcases pBest_min (pFor I Z c) (pKey I) I.m with h1 | ⟨i, h1, h2, h3, h4⟩
  · exact absurd hP (h1.2 a ha)
  · have e : pKey I i = pKey I a := Int.le_antisymm (h4 a ha hP) (h i h1 h3)
    rw [show pFirst I Z c = (i : Int) from h2, pKey_inj hO h1 ha e]
/-- the first k stand in line -/
def lOK (L : Nat → Int) (I : pI) (k : Nat) : Prop := (∀ i, i < k → ∃ a : Nat, a < k ∧ L i = pKey I a) ∧ (∀ i j, i < j → j < k → L i < L j) ∧ (∀ a, a < k → ∃ i : Nat, i < k ∧ L i = pKey I a)
theorem kd173 (d k : Nat) (I : pI) (μ : mj_M) (hO : iOK I) (hk : k < I.m) (hL : lOK (μ 30 0) I k) :
    ∀ i, i ≤ k → ∀ (o : Option mj_V) (μ1 : mj_M), fr (fS [30]) μ μ1 → (∀ j, j < i → μ1 30 0 j = μ 30 0 j) → (∀ j, i < j → j ≤ k → μ1 30 0 j = μ 30 0 (j - 1)) → (∀ j, i ≤ j → j < k → pKey I k < μ 30 0 j) →
      mwV (kd d 173 1 [some (v_r 21 0), o, some (v_i (pKey I k)), some (v_i (i : Int))] [] μ1) (fun μ' => lOK (μ' 30 0) I (k + 1) ∧ fr (fS [30]) μ μ') := by
  have hm := hO.m
  intro i
  have done : ∀ i, i ≤ k → ∀ (μ1 : mj_M), fr (fS [30]) μ μ1 → (∀ j, j < i → μ1 30 0 j = μ 30 0 j) → (∀ j, i < j → j ≤ k → μ1 30 0 j = μ 30 0 (j - 1)) → (∀ j, i ≤ j → j < k → pKey I k < μ 30 0 j) → (∀ j, j < i → μ 30 0 j < pKey I k) →
      lOK (mj_up μ1 30 0 i (pKey I k) 30 0) I (k + 1) ∧ fr (fS [30]) μ (mj_up μ1 30 0 i (pKey I k)) := by
    intro i hi μ1 hf h1 h2 h3 h4
    refine ⟨?_, fr_tr hf (fr_up rfl)⟩
    have hF : ∀ j, j < k + 1 → (j < i ∧ mj_up μ1 30 0 i (pKey I k) 30 0 j = μ 30 0 j) ∨ (j = i ∧ mj_up μ1 30 0 i (pKey I k) 30 0 j = pKey I k) ∨ (i < j ∧ mj_up μ1 30 0 i (pKey I k) 30 0 j = μ 30 0 (j - 1)) := by
      intro j hj
      rcases Nat.lt_trichotomy j i with q | q | q
      · exact Or.inl ⟨q, by rw [up_nk (by omega)]; exact h1 j q⟩
      · exact Or.inr (Or.inl ⟨q, by rw [q, up_eq]⟩)
      · exact Or.inr (Or.inr ⟨q, by rw [up_nk (by omega)]; exact h2 j q (by omega)⟩)
    generalize mj_up μ1 30 0 i (pKey I k) 30 0 = F at hF ⊢
    obtain ⟨l1, l2, l3⟩ := hL
    refine ⟨fun j hj => ?_, fun j j' hjj hj => ?_, fun a ha => ?_⟩
    · rcases hF j hj with ⟨q, e⟩ | ⟨q, e⟩ | ⟨q, e⟩
      · obtain ⟨a, p1, p2⟩ := l1 j (by omega)
        exact ⟨a, by omega, e.trans p2⟩
      · exact ⟨k, by omega, e⟩
      · obtain ⟨a, p1, p2⟩ := l1 (j - 1) (by omega)
        exact ⟨a, by omega, e.trans p2⟩
    · rcases hF j (by omega) with ⟨q, e⟩ | ⟨q, e⟩ | ⟨q, e⟩ <;> rcases hF j' hj with ⟨q', e'⟩ | ⟨q', e'⟩ | ⟨q', e'⟩ <;> rw [e, e']
      · exact l2 j j' hjj (by omega)
      · exact h4 j q
      · by_cases e2 : j = j' - 1
        · omega
        · exact l2 j (j' - 1) (by omega) (by omega)
      · omega
      · omega
      · exact h3 (j' - 1) (by omega) (by omega)
      · omega
      · omega
      · exact l2 (j - 1) (j' - 1) (by omega) (by omega)
    · by_cases e : a = k
      · refine ⟨i, by omega, ?_⟩
        rcases hF i (by omega) with ⟨q, -⟩ | ⟨q, e1⟩ | ⟨q, -⟩
        · omega
        · rw [e1, e]
        · omega
      · obtain ⟨j, p1, p2⟩ := l3 a (by omega)
        by_cases q : j < i
        · refine ⟨j, by omega, ?_⟩
          rcases hF j (by omega) with ⟨-, e1⟩ | ⟨q2, -⟩ | ⟨q2, -⟩
          · rw [e1, p2]
          · omega
          · omega
        · refine ⟨j + 1, by omega, ?_⟩
          rcases hF (j + 1) (by omega) with ⟨q2, -⟩ | ⟨q2, -⟩ | ⟨q2, e1⟩
          · omega
          · omega
          · rw [e1, Nat.add_sub_cancel, p2]
  induction i with
  | zero =>
    intro hi o μ1 hf h1 h2 h3
    rw [ke173_1, if_neg (by decide), if_pos (by decide)]
    exact mwV_ret (done 0 hi μ1 hf h1 h2 h3 (fun j hj => absurd hj (Nat.not_lt_zero _)))
  | succ i ih =>
    intro hi o μ1 hf h1 h2 h3
    have e1 : mj_w (((i + 1 : Nat) : Int) - 1) = (i : Int) := by rw [wi (by omega) (by omega)]; omega
    have e2 : mj_w (((i + 1 : Nat) : Int) + (-1)) = (i : Int) := by rw [wi (by omega) (by omega)]; omega
    have hb : 0 ≤ (i : Int) ∧ (i : Int) < 16 := by omega
    have hb' : 0 ≤ ((i + 1 : Nat) : Int) ∧ ((i + 1 : Nat) : Int) < 16 := by omega
    rw [ke173_1, if_pos (by omega), e1, if_pos hb, e2, Int.toNat_natCast, Int.toNat_natCast, h1 i (by omega)]
    by_cases q : pKey I k < μ 30 0 i
    · rw [if_pos q, if_pos hb, if_pos hb']
      refine ih (by omega) none _ (fr_tr hf (fr_up rfl)) (fun j hj => ?_) (fun j hj hj' => ?_) (fun j hj hj' => ?_)
      · rw [up_nk (by omega)]; exact h1 j (by omega)
      · by_cases e : j = i + 1
        · rw [e, up_eq, Nat.add_sub_cancel]
        · rw [up_nk e]; exact h2 j (by omega) hj'
      · by_cases e : j = i
        · rw [e]; exact q
        · exact h3 j (by omega) hj'
    · rw [if_neg q, if_pos hb']
      refine mwV_ret (done (i + 1) hi μ1 hf h1 h2 h3 (fun j hj => ?_))
      obtain ⟨a, p1, p2⟩ := hL.1 i (by omega)
      have hne : μ 30 0 i ≠ pKey I k := fun e => by
        have := pKey_inj hO (by omega) hk (p2.symm.trans e)
        omega
      by_cases e : j = i
      · rw [e]; omega
      · have := hL.2.1 j i (by omega) (by omega); omega
theorem kc173 (d k : Nat) (I : pI) (μ : mj_M) (hO : iOK I) (hk : k < I.m) (hL : lOK (μ 30 0) I k) :
    mwV (kc (d + 1) 173 [v_r 21 0, v_i (k : Int), v_i (pKey I k)] μ) (fun μ' => lOK (μ' 30 0) I (k + 1) ∧ fr (fS [30]) μ μ') := by
  rw [ke173_0]
  exact kd173 d k I μ hO hk hL k (Nat.le_refl _) _ μ fr_rf (fun _ _ => rfl) (fun j h1 h2 => by omega) (fun j h1 h2 => by omega)
