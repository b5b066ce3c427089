/-! the reference lives the day -/
def pW2 (I : pI) (r : Nat) : Nat := if r < 6 then I.m else I.n
def pW4 (I : pI) (r : Nat) : Nat := if r < 6 then I.m else 4
def zR (ρ : mj_M) (I : pI) (Z : pZ) : Prop := ∀ r k, r < 8 → k < pW4 I r → ρ (53 + r) 0 k = Z r k
theorem zR_a {ρ : mj_M} {I : pI} {Z : pZ} (h : zR ρ I Z) {a : Nat} (ha : a < I.m) (r : Nat) (hr : r < 6) : ρ (53 + r) 0 a = Z r a := h r a (by omega) (by unfold pW4; rw [if_pos hr]; exact ha)
theorem zR_c {ρ : mj_M} {I : pI} {Z : pZ} (h : zR ρ I Z) {c : Nat} (hc : c < 4) (r : Nat) (hr : ¬ r < 6) (hr' : r < 8) : ρ (53 + r) 0 c = Z r c := h r c hr' (by unfold pW4; rw [if_neg hr]; exact hc)
theorem zR_up {ρ : mj_M} {I : pI} {Z : pZ} (h : zR ρ I Z) (r k : Nat) (x : Int) : zR (mj_up ρ (53 + r) 0 k x) I (zU Z r k x) := by
  intro r' k' hr' hk'
  unfold zU
  rw [up_ap]
  by_cases e : r' = r ∧ k' = k
  · rw [if_pos ⟨by omega, e.2, rfl⟩, if_pos e]
  · rw [if_neg (fun q => e ⟨by omega, q.2.1⟩), if_neg e]; exact h r' k' hr' hk'
theorem zR_fr {l : List Nat} {ρ ρ' : mj_M} {I : pI} {Z : pZ} (h : zR ρ I Z) (hf : fr (fS l) ρ ρ') (q : ∀ r, r < 8 → l.contains (53 + r) = false) : zR ρ' I Z := fun r k hr hk => by rw [fS_rd hf (q r hr)]; exact h r k hr hk
/-- what stays right all day -/
def zOK (I : pI) (t : Int) (Z : pZ) : Prop := ∀ a, a < I.m → (0 ≤ Z 1 a ∧ Z 1 a < 4) ∧ (Z 0 a = 1 → I.comes a ≤ t)
theorem pBest_lt (P : Nat → Prop) [∀ k, Decidable (P k)] (key : Nat → Int) : ∀ k, pBest P key k = -1 ∨ ∃ i : Nat, i < k ∧ pBest P key k = (i : Int) ∧ P i
  | 0 => Or.inl rfl
  | k + 1 => by
    have ih := pBest_lt P key k
    unfold pBest
    have old : pBest P key k = -1 ∨ ∃ i : Nat, i < k + 1 ∧ pBest P key k = (i : Int) ∧ P i := ih.elim Or.inl (fun ⟨i, h1, h2, h3⟩ => Or.inr ⟨i, by omega, h2, h3⟩)
    split
    · rename_i hp
      split
      · exact Or.inr ⟨k, by omega, rfl, hp⟩
      · split
        · exact Or.inr ⟨k, by omega, rfl, hp⟩
        · exact old
    · exact old
theorem pw2 (k : Nat) : (0 : Int) ≤ 2 ^ k := by
  induction k with
  | zero => decide
  | succ k ih => rw [Int.pow_succ]; omega
theorem kd109 (d c : Nat) (ρ : mj_M) (I : pI) (t : Nat) (Z : pZ) (tm : Int) (hI : iR ρ I t) (hO : iOK I) (hZ : zR ρ I Z) (hz : zOK I tm Z) (hc : c < I.n) :
    ∀ k, k ≤ I.m → kd (d + 1) 109 1 [some (v_r 33 0), some (v_i (c : Int)), some (v_i (pBest (pFor I Z c) (pKey I) k)), some (v_i (k : Int))] [] ρ = some (some (v_i (pFirst I Z c)), ρ) := by
  have hn := hO.n
  have hm := hO.m
  have e1 : mj_w (3 * (c : Int)) = ((3 * c : Nat) : Int) := by rw [wi (by omega) (by omega)]; omega
  have hb1 : 0 ≤ ((3 * c : Nat) : Int) ∧ ((3 * c : Nat) : Int) < 12 := by omega
  refine loop_up ?_ ?_
  · rw [ke109_1, hI.m, if_neg (by omega)]; rfl
  · intro k hk ih
    have hb : 0 ≤ (k : Int) ∧ (k : Int) < 17 := by omega
    have hw : mj_w ((k : Int) + 1) = ((k + 1 : Nat) : Int) := by rw [wi (by omega) (by omega)]; omega
    obtain ⟨hwi, -⟩ := hz k hk
    have h53 : ρ 53 0 k = Z 0 k := zR_a hZ hk 0 (by decide)
    have h54 : ρ 54 0 k = Z 1 k := zR_a hZ hk 1 (by decide)
    have hdoes := hO.does c hc
    rw [ke109_1, hI.m, if_pos (by omega), if_pos hb, Int.toNat_natCast, h53]
    have hdiv : (0 : Int) ≤ I.does c / 2 ^ (Z 1 k).toNat := Int.ediv_nonneg hdoes.1 (pw2 _)
    have hbest : pBest (pFor I Z c) (pKey I) (k + 1) = (if pFor I Z c k then (if pBest (pFor I Z c) (pKey I) k = -1 then (k : Int) else if pKey I k < pKey I (pBest (pFor I Z c) (pKey I) k).toNat then (k : Int) else pBest (pFor I Z c) (pKey I) k) else pBest (pFor I Z c) (pKey I) k) := rfl
    by_cases h1 : Z 0 k = 1
    · rw [if_pos h1, e1, if_pos hb1, if_pos hb, h54, if_pos (by omega), Int.toNat_natCast, hI.does c hc, if_pos ⟨hdiv, by decide⟩]
      by_cases h2 : pBit (I.does c) (Z 1 k) = 1
      · rw [if_pos (⟨h1, h2⟩ : pFor I Z c k)] at hbest
        unfold pBit at h2
        rw [if_pos h2]
        by_cases h3 : pBest (pFor I Z c) (pKey I) k = -1
        · rw [if_pos h3] at hbest
          rw [if_pos h3, hw, ← hbest]; exact ih
        · rw [if_neg h3] at hbest
          rw [if_neg h3]
          rcases pBest_lt (pFor I Z c) (pKey I) k with h4 | ⟨i, hi, h4, -⟩
          · exact absurd h4 h3
          · rw [h4, Int.toNat_natCast] at hbest
            rw [h4, kc108 d k i ρ I t hI hO hk (by omega), rI_some]
            by_cases h5 : pKey I k < pKey I i
            · rw [if_pos h5] at hbest
              rw [b01_t h5, if_neg (by decide), hw, ← hbest]; exact ih
            · rw [if_neg h5] at hbest
              rw [b01_f h5, if_pos rfl, hw, ← hbest]; exact ih
      · rw [if_neg (fun q : pFor I Z c k => h2 q.2)] at hbest
        unfold pBit at h2
        rw [if_neg h2, hw, ← hbest]; exact ih
    · rw [if_neg (fun q : pFor I Z c k => h1 q.1)] at hbest
      rw [if_neg h1, hw, ← hbest]; exact ih
theorem kc109 (d c : Nat) (ρ : mj_M) (I : pI) (t : Nat) (Z : pZ) (tm : Int) (hI : iR ρ I t) (hO : iOK I) (hZ : zR ρ I Z) (hz : zOK I tm Z) (hc : c < I.n) : kc (d + 2) 109 [v_r 33 0, v_i (c : Int)] ρ = some (some (v_i (pFirst I Z c)), ρ) := by
  rw [ke109_0]
  exact kd109 d c ρ I t Z tm hI hO hZ hz hc 0 (Nat.zero_le _)
/-- sorts a day's life writes -/
def dR : List Nat := [51, 52, 53, 54, 55, 56, 57, 58, 59, 60]
theorem kc110 (d c a : Nat) (tm : Int) (ρ : mj_M) (I : pI) (t : Nat) (Z : pZ) (hI : iR ρ I t) (hO : iOK I) (hZ : zR ρ I Z) (ha : a < I.m) (hc : c < I.n) :
    mwV (kc (d + 5) 110 [v_r 33 0, v_i (c : Int), v_i (a : Int), v_i tm] ρ) (fun ρ' => zR ρ' I (pCall I c a tm Z) ∧ fr (fS dR) ρ ρ') := by
  have hn := hO.n
  have hm := hO.m
  have hb : 0 ≤ (a : Int) ∧ (a : Int) < 17 := by omega
  have hb4 : 0 ≤ (c : Int) ∧ (c : Int) < 4 := by omega
  have e1 : mj_w (3 * (c : Int)) = ((3 * c : Nat) : Int) := by rw [wi (by omega) (by omega)]; omega
  have hb1 : 0 ≤ ((3 * c : Nat) : Int) ∧ ((3 * c : Nat) : Int) < 12 := by omega
  have hne := pNeeds_03 hO ha
  have hdoes := hO.does c hc
  have h58 : ρ 58 0 a = Z 5 a := zR_a hZ ha 5 (by decide)
  rw [ke110_0, if_pos hb, if_pos hb, if_pos hb, Int.toNat_natCast, hI.comes a ha, h58]
  have hZ1 : zR (mj_up ρ 58 0 a (mj_w (Z 5 a + 1))) I (zU Z 5 a (mj_w (Z 5 a + 1))) := zR_up hZ 5 a _
  have hf1 : fr (fS dR) ρ (mj_up ρ 58 0 a (mj_w (Z 5 a + 1))) := fr_up rfl
  generalize mj_up ρ 58 0 a (mj_w (Z 5 a + 1)) = ρ1 at hZ1 hf1 ⊢
  have hI1 := iR_fr hI hf1 (by decide)
  generalize hw : mj_w (tm - I.comes a) = w
  refine mwV_rI (mwI_mono (kc106 d a w ρ1 I t hI1 hO ha) (fun x ρ2 h => ?_))
  obtain ⟨rfl, hf2⟩ := h
  have hI2 := iR_fr hI1 hf2 (by decide)
  have hZ2 := zR_fr hZ1 hf2 (by decide)
  have hf02 : fr (fS dR) ρ ρ2 := fr_tr hf1 (fS_sub hf2 (fun s hs => by simp [dR] at hs ⊢; omega))
  unfold pCall
  rw [hw]
  by_cases hth : pThere I a w
  · rw [b01_t hth, if_neg (by decide), if_pos hth, e1, if_pos hb1, kc103 (d + 3) a ρ2 I t hI2 hO ha, rI_some, if_pos (by omega), Int.toNat_natCast, hI2.does c hc, if_pos ⟨Int.ediv_nonneg hdoes.1 (pw2 _), by decide⟩]
    by_cases hbit : pBit (I.does c) (pNeeds I a) = 0
    · rw [if_pos hbit]
      unfold pBit at hbit
      rw [if_pos hbit, kc103 (d + 3) a ρ2 I t hI2 hO ha, rI_some, if_pos hb]
      exact mwV_ret ⟨zR_up hZ2 1 a _, fr_tr hf02 (fr_up rfl)⟩
    · rw [if_neg hbit]
      unfold pBit at hbit
      rw [if_neg hbit, if_pos hb, if_pos hb]
      have hZ3 := zR_up (zR_up hZ2 0 a 2) 2 a tm
      have hf3 : fr (fS dR) ρ (mj_up (mj_up ρ2 (53 + 0) 0 a 2) (53 + 2) 0 a tm) := fr_tr (fr_tr hf02 (fr_up rfl)) (fr_up rfl)
      have hI3 := iR_fr hI hf3 (by decide)
      refine mwV_rI (mwI_mono (kc105 d a c w _ I t hI3 hO ha hc) (fun x ρ4 h => ?_))
      obtain ⟨rfl, hf4⟩ := h
      have hZ4 := zR_fr hZ3 hf4 (by decide)
      have hf04 : fr (fS dR) ρ ρ4 := fr_tr hf3 (fS_sub hf4 (fun s hs => by simp [dR] at hs ⊢; omega))
      rw [if_pos hb, if_pos hb, if_pos hb, if_pos hb4, up_eq]
      exact mwV_ret ⟨zR_up (zR_up (zR_up hZ4 3 a _) 4 a _) 6 c _, fr_tr (fr_tr (fr_tr hf04 (fr_up rfl)) (fr_up rfl)) (fr_up rfl)⟩
  · rw [b01_f hth, if_pos rfl, if_neg hth, if_pos hb]
    have h58' : ρ2 58 0 a = mj_w (Z 5 a + 1) := (zR_a hZ2 ha 5 (by decide)).trans (by unfold zU; rw [if_pos ⟨rfl, rfl⟩])
    rw [h58', hI2.called]
    by_cases h3 : mj_w (Z 5 a + 1) < I.called
    · rw [if_pos h3, if_pos hb, if_pos h3]
      exact mwV_ret ⟨zR_up hZ2 0 a _, fr_tr hf02 (fr_up rfl)⟩
    · rw [if_neg h3, if_pos hb, if_neg h3]
      exact mwV_ret ⟨zR_up hZ2 0 a _, fr_tr hf02 (fr_up rfl)⟩
theorem pFirst_lt (I : pI) (Z : pZ) (c : Nat) : pFirst I Z c = -1 ∨ ∃ i : Nat, i < I.m ∧ pFirst I Z c = (i : Int) ∧ pFor I Z c i := pBest_lt _ _ _
theorem zOK_call {I : pI} {Z : pZ} {t : Int} {c a : Nat} (hO : iOK I) (h : zOK I t Z) (ha : a < I.m) (h1 : Z 0 a = 1) : zOK I t (pCall I c a t Z) := by
  have hne := pNeeds_03 hO ha
  have hca := (h a ha).2 h1
  intro b hb
  obtain ⟨h2, h3⟩ := h b hb
  unfold pCall
  split
  · split
    · simp only [zU]
      refine ⟨?_, ?_⟩
      · split
        · exact hne
        · simp; exact h2
      · simp; exact h3
    · simp only [zU]
      simp
      refine ⟨h2, ?_⟩
      intro hq
      by_cases e : b = a
      · rw [if_pos e] at hq; exact absurd hq (by decide)
      · rw [if_neg e] at hq; exact h3 hq
  · simp only [zU]
    simp
    refine ⟨h2, ?_⟩
    intro hq
    by_cases e : b = a
    · rw [e]; exact hca
    · rw [if_neg e] at hq; exact h3 hq
theorem zOK_counter {I : pI} {Z : pZ} {t : Int} {c : Nat} (hO : iOK I) (h : zOK I t Z) : zOK I t (pCounter I t c Z) := by
  unfold pCounter
  split
  · exact h
  split
  · exact h
  split
  · intro b hb
    have := h b hb
    simp only [zU]; simp; exact this
  · rename_i hq
    rcases pFirst_lt I Z c with h1 | ⟨i, h1, h2, h3⟩
    · exact absurd h1 hq
    · rw [h2, Int.toNat_natCast]; exact zOK_call hO h h1 h3.1
theorem zOK_comes {I : pI} {Z : pZ} {t : Int} (h : zOK I (t - 1) Z) : zOK I t (pComes I t Z) := by
  intro a ha
  obtain ⟨h1, h2⟩ := h a ha
  unfold pComes
  simp
  refine ⟨h1, ?_⟩
  by_cases e : I.comes a = t
  · intro _; omega
  · rw [if_neg (fun q => e q.2)]; intro q; have := h2 q; omega
theorem zOK_counters {I : pI} {Z : pZ} {t : Int} (hO : iOK I) (h : zOK I t Z) : ∀ c, zOK I t (pCounters I t c Z)
  | 0 => h
  | c + 1 => zOK_counter hO (zOK_counters hO h c)
theorem zOK_day {I : pI} (hO : iOK I) : ∀ t : Nat, zOK I ((t : Int) - 1) (pDay I t)
  | 0 => by
    intro a ha
    have h1 := hO.letter a ha
    have h2 := pNeeds_03 hO ha
    refine ⟨?_, fun q => ?_⟩
    · show 0 ≤ (if I.right = 0 then I.letter a else pNeeds I a) ∧ (if I.right = 0 then I.letter a else pNeeds I a) < 4
      split
      · omega
      · exact h2
    · exact absurd q (by show ¬ (0 : Int) = 1; decide)
  | t + 1 => by
    have := zOK_counters hO (zOK_comes (zOK_day hO t)) I.n
    rw [show ((t + 1 : Nat) : Int) - 1 = (t : Int) by omega]
    exact this
/-- one counter after another -/
theorem kd111 (d : Nat) (tm : Int) (I : pI) (t : Nat) (Z : pZ) (hO : iOK I) (ht : 0 ≤ tm ∧ tm < 240) (hz : ∀ c, zOK I tm (pCounters I tm c Z)) (ρ0 : mj_M) :
    ∀ j c o1 o2 o3 (ρ : mj_M), c + j = I.n → iR ρ I t → zR ρ I (pCounters I tm c Z) → fr (fS dR) ρ0 ρ →
      mwV (kd (d + 5) 111 6 [some (v_r 33 0), some (v_i tm), some (v_i (c : Int)), o1, o2, o3] [] ρ) (fun ρ' => zR ρ' I (pCounters I tm I.n Z) ∧ fr (fS dR) ρ0 ρ') := by
  have hn := hO.n
  intro j
  induction j with
  | zero =>
    intro c o1 o2 o3 ρ hc hI hZ hf
    have : c = I.n := by omega
    rw [ke111_6, hI.n, if_neg (by omega), ← this]
    exact mwV_ret ⟨hZ, hf⟩
  | succ j ih =>
    intro c o1 o2 o3 ρ hc hI hZ hf
    have hcn : c < I.n := by omega
    have e2 : mj_w (mj_w (3 * (c : Int)) + 2) = ((3 * c + 2 : Nat) : Int) := by
      rw [wi (z := 3 * (c : Int)) (by omega) (by omega), wi (by omega) (by omega)]; omega
    have hb4 : 0 ≤ (c : Int) ∧ (c : Int) < 4 := by omega
    have hw : mj_w ((c : Int) + 1) = ((c + 1 : Nat) : Int) := by rw [wi (by omega) (by omega)]; omega
    have hp := hO.pause c hcn
    have h59 : ρ 59 0 c = pCounters I tm c Z 6 c := zR_c hZ (by omega) 6 (by decide) (by decide)
    have h60 : ρ 60 0 c = pCounters I tm c Z 7 c := zR_c hZ (by omega) 7 (by decide) (by decide)
    have hstep : pCounters I tm (c + 1) Z = pCounter I tm c (pCounters I tm c Z) := rfl
    have skip : pCounters I tm (c + 1) Z = pCounters I tm c Z → ∀ o1 o2 o3, mwV (kd (d + 5) 111 6 [some (v_r 33 0), some (v_i tm), some (v_i (mj_w ((c : Int) + 1))), o1, o2, o3] [] ρ) (fun ρ' => zR ρ' I (pCounters I tm I.n Z) ∧ fr (fS dR) ρ0 ρ') := by
      intro q o1 o2 o3
      rw [hw]
      exact ih (c + 1) o1 o2 o3 ρ (by omega) hI (by rw [q]; exact hZ) hf
    have h8 : ∀ (o1 o2 o3 : Option mj_V) (s : Int), s = b01 (pPausing I c tm) → mwV (kd (d + 5) 111 8 [some (v_r 33 0), some (v_i tm), some (v_i (c : Int)), o1, o2, o3] [v_i s] ρ) (fun ρ' => zR ρ' I (pCounters I tm I.n Z) ∧ fr (fS dR) ρ0 ρ') := by
      intro o1 o2 o3 s hs
      rw [ke111_8, if_pos hb4, Int.toNat_natCast, h59, hs]
      by_cases h1 : tm < pCounters I tm c Z 6 c
      · rw [if_pos h1]
        exact skip (by rw [hstep]; unfold pCounter; rw [if_pos h1]) _ _ _
      rw [if_neg h1]
      by_cases h2 : pPausing I c tm
      · rw [b01_t h2, if_neg (by decide)]
        exact skip (by rw [hstep]; unfold pCounter; rw [if_neg h1, if_pos h2]) _ _ _
      rw [b01_f h2, if_pos rfl, kc109 (d + 3) c ρ I t _ tm hI hO hZ (hz c) hcn, rI_some]
      by_cases h3 : pFirst I (pCounters I tm c Z) c = -1
      · rw [if_pos h3, if_pos hb4, if_pos hb4, h60, hw]
        refine ih (c + 1) _ _ _ _ (by omega) (iR_fr (l := dR) hI (fr_up rfl) (by decide)) ?_ (fr_tr hf (fr_up rfl))
        rw [hstep]; unfold pCounter; rw [if_neg h1, if_neg h2, if_pos h3]
        exact zR_up hZ 7 c _
      · rw [if_neg h3]
        rcases pFirst_lt I (pCounters I tm c Z) c with h4 | ⟨i, h4, h5, h6⟩
        · exact absurd h4 h3
        · rw [h5]
          refine mwV_rV (mwV_mono (kc110 d c i tm ρ I t _ hI hO hZ h4 hcn) (fun ρ2 h => ?_))
          obtain ⟨hZ2, hf2⟩ := h
          rw [hw]
          refine ih (c + 1) _ _ _ _ (by omega) (iR_fr hI hf2 (by decide)) ?_ (fr_tr hf hf2)
          rw [hstep]; unfold pCounter; rw [if_neg h1, if_neg h2, if_neg h3, h5, Int.toNat_natCast]
          exact hZ2
    rw [ke111_6, hI.n, if_pos (by omega), e2, if_pos (by omega), Int.toNat_natCast, hI.pause c hcn]
    by_cases h1 : I.pause c = -1
    · rw [if_pos h1]; exact h8 _ _ _ _ (b01_f (fun q => q.1 h1)).symm
    · rw [if_neg h1, kc72, rI_some, wi (z := I.pause c + 9) (by omega) (by omega)]
      by_cases h2 : I.pause c ≤ tm ∧ tm ≤ I.pause c + 9
      · rw [b01_t h2, if_neg (by decide)]; exact h8 _ _ _ _ (b01_t ⟨h1, h2⟩).symm
      · rw [b01_f h2, if_pos rfl]; exact h8 _ _ _ _ (b01_f (fun q => h2 q.2)).symm
