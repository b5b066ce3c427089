/-! the class lives the day -/
def dC : List Nat := [12, 13, 21, 22, 23, 24, 25, 26, 27, 28, 29, 30]
def pCE (I : pI) (t : Int) : Nat → Int
  | 0 => 0
  | k + 1 => pCE I t k + (if I.comes k = t then 1 else 0)
def pCG (I : pI) (t : Int) : Nat → Int
  | 0 => 0
  | k + 1 => pCG I t k + (if t ≤ I.comes k then 1 else 0)
theorem pCG_step (I : pI) (t : Int) : ∀ k, pCG I t k = pCE I t k + pCG I (t + 1) k
  | 0 => rfl
  | k + 1 => by
    have := pCG_step I t k
    unfold pCG pCE
    repeat' split
    all_goals omega
theorem pCG_b (I : pI) (t : Int) : ∀ k : Nat, 0 ≤ pCG I t k ∧ pCG I t k ≤ (k : Int) ∧ 0 ≤ pCE I t k ∧ pCE I t k ≤ (k : Int)
  | 0 => ⟨Int.le_refl _, Int.le_refl _, Int.le_refl _, Int.le_refl _⟩
  | k + 1 => by
    have := pCG_b I t k
    unfold pCG pCE
    repeat' split
    all_goals omega
theorem pCG_0 (I : pI) (t : Int) : ∀ k : Nat, pCG I t k = 0 → ∀ a, a < k → ¬ t ≤ I.comes a
  | 0, _, a, ha => absurd ha (Nat.not_lt_zero _)
  | k + 1, h, a, ha => by
    have h1 := pCG_b I t k
    have hu : pCG I t (k + 1) = pCG I t k + (if t ≤ I.comes k then 1 else 0) := rfl
    rw [hu] at h
    by_cases q : t ≤ I.comes k
    · rw [if_pos q] at h; omega
    · rw [if_neg q] at h
      by_cases e : a = k
      · rw [e]; exact q
      · exact pCG_0 I t k (by omega) a (by omega)
theorem pCG_all {I : pI} (t : Int) : ∀ k : Nat, (∀ a, a < k → t ≤ I.comes a) → pCG I t k = (k : Int)
  | 0, _ => rfl
  | k + 1, h => by
    have := pCG_all t k (fun a ha => h a (by omega))
    unfold pCG
    rw [if_pos (h k (by omega)), this]; omega
theorem kc174 (d : Nat) (tm : Int) (μ : mj_M) (I : pI) (t : Nat) (Z : pZ) (hI : iC μ 2 I t) (hO : iOK I) (hZ : zC μ I Z) (hz : zOK I (tm - 1) Z) (hv : 0 ≤ μ 21 0 10 ∧ μ 21 0 10 ≤ 16) :
    mwV (kc (d + 2) 174 [v_r 21 0, v_i tm] μ) (fun μ' => (zC μ' I (pComes I tm Z) ∧ wOK μ' I (pComes I tm Z)) ∧ fr (fS dW) μ μ' ∧ μ' 21 0 10 = μ 21 0 10 - pCE I tm I.m) := by
  have hm := hO.m
  have hzc := zOK_comes (t := tm) hz
  have main : ∀ j k (μ1 : mj_M), k + j = I.m → zC μ1 I (pComesK I tm k Z) → fr (fS dW) μ μ1 → μ1 21 0 10 = μ 21 0 10 - pCE I tm k →
      mwV (kd (d + 1) 174 1 [some (v_r 21 0), some (v_i tm), some (v_i (k : Int))] [] μ1) (fun μ' => (zC μ' I (pComes I tm Z) ∧ wOK μ' I (pComes I tm Z)) ∧ fr (fS dW) μ μ' ∧ μ' 21 0 10 = μ 21 0 10 - pCE I tm I.m) := by
    intro j
    induction j with
    | zero =>
      intro k μ1 hk hZ1 hf h10
      have hI1 := iC_fr hI hf (by decide)
      have e : k = I.m := by omega
      rw [e, pComesK_m] at hZ1
      rw [ke174_1, hI1.m, if_neg (by omega)]
      refine mwV_rV (mwV_mono (kc175 d μ1 I t _ hI1 hO hZ1 (fun b hb => (hzc b hb).1)) (fun μ6 h => ?_))
      obtain ⟨h2, h3, h4⟩ := h
      exact mwV_ret ⟨⟨zC_fr hZ1 h3 (by decide), h2⟩, fr_tr hf (fS_sub h3 (fun s hs => by simp [dW] at hs ⊢; omega)), by rw [h4, h10, e]⟩
    | succ j ih =>
      intro k μ1 hk hZ1 hf h10
      have hI1 := iC_fr hI hf (by decide)
      have hkm : k < I.m := by omega
      have hb : 0 ≤ (k : Int) ∧ (k : Int) < 16 := by omega
      have hw : mj_w ((k : Int) + 1) = ((k + 1 : Nat) : Int) := by rw [wi (by omega) (by omega)]; omega
      have hce := pCG_b I tm k
      have hce1 : pCE I tm (k + 1) = pCE I tm k + (if I.comes k = tm then 1 else 0) := rfl
      rw [ke174_1, hI1.m, if_pos (by omega), if_pos hb, Int.toNat_natCast, hI1.comes k hkm, hI1.stop, hw, h10]
      by_cases q1 : I.comes k = tm
      · rw [if_pos q1] at hce1 ⊢
        have hq := pComesK_y I tm k Z q1
        have hw1 : mj_w (μ 21 0 10 - pCE I tm k - 1) = μ 21 0 10 - pCE I tm (k + 1) := by rw [wi (by omega) (by omega)]; omega
        have go : ∀ x, pComesK I tm (k + 1) Z = zU (pComesK I tm k Z) 0 k x → mwV (kd (d + 1) 174 1 [some (v_r 21 0), some (v_i tm), some (v_i ((k + 1 : Nat) : Int))] [] (mj_up (mj_up μ1 22 0 k x) 21 0 10 (mj_w (μ 21 0 10 - pCE I tm k - 1)))) (fun μ' => (zC μ' I (pComes I tm Z) ∧ wOK μ' I (pComes I tm Z)) ∧ fr (fS dW) μ μ' ∧ μ' 21 0 10 = μ 21 0 10 - pCE I tm I.m) := by
          intro x hx
          refine ih (k + 1) _ (by omega) ?_ (fr_tr (fr_tr hf (fr_up rfl)) (fr_up rfl)) (by rw [up_eq]; exact hw1)
          rw [hx]
          exact zC_fr (l := [21]) (zC_up hZ1 0 k x (by decide)) (fr_up rfl) (by decide)
        by_cases q2 : tm < I.stop
        · rw [if_pos q2] at hq
          rw [if_pos q2, if_pos hb]
          exact go 1 hq
        · rw [if_neg q2] at hq
          rw [if_neg q2, if_pos hb]
          exact go 4 hq
      · rw [if_neg q1] at hce1 ⊢
        exact ih (k + 1) μ1 (by omega) (by rw [pComesK_n I tm k Z q1]; exact hZ1) hf (by rw [h10, hce1]; omega)
  rw [ke174_0]
  exact main I.m 0 μ (by omega) (by rw [pComesK_0]; exact hZ) fr_rf (by show _ = _ - 0; omega)
theorem kc171 (d : Nat) (μ : mj_M) (I : pI) (t : Nat) (hI : iC μ 2 I t) (hO : iOK I) :
    mwV (kc (d + 3) 171 [v_r 21 0, v_r 6 0] μ) (fun μ' => (zC μ' I (pBegin I) ∧ wOK μ' I (pBegin I)) ∧ lOK (μ' 30 0) I I.m ∧ fr (fS dC) μ μ' ∧ μ' 21 0 10 = (I.m : Int)) := by
  have hm := hO.m
  have hn := hO.n
  have l3 : ∀ j k (μ1 : mj_M), k + j = I.m → (∀ r i, r < 6 → i < k → μ1 (cS r) 0 i = pBegin I r i) → (∀ i, i < I.n → μ1 29 0 i = 0 ∧ μ1 27 0 i = 0) → lOK (μ1 30 0) I k → fr (fS dC) μ μ1 →
      mwV (kd (d + 2) 171 3 [some (v_r 21 0), some (v_r 6 0), some (v_i (k : Int))] [] μ1) (fun μ' => (zC μ' I (pBegin I) ∧ wOK μ' I (pBegin I)) ∧ lOK (μ' 30 0) I I.m ∧ fr (fS dC) μ μ' ∧ μ' 21 0 10 = (I.m : Int)) := by
    intro j
    induction j with
    | zero =>
      intro k μ1 hk hA hC hL hf
      have hI1 := iC_fr hI hf (by decide)
      have e : k = I.m := by omega
      rw [e] at hA hL
      rw [ke171_3, hI1.m, if_neg (by omega)]
      have hf2 : fr (fS [21]) μ1 (mj_up (mj_up μ1 21 0 10 (I.m : Int)) 21 0 11 0) := fr_tr (fr_up rfl) (fr_up rfl)
      have hZ1 : zC μ1 I (pBegin I) := by
        intro r i hr hi
        unfold pW2 at hi
        by_cases q : r < 6
        · rw [if_pos q] at hi; exact hA r i q hi
        · rw [if_neg q] at hi
          have := hC i hi
          have h67 : r = 6 ∨ r = 7 := by omega
          rcases h67 with rfl | rfl
          · exact this.1
          · exact this.2
      refine mwV_ret ⟨⟨zC_fr hZ1 hf2 (by decide), by rw [up_eq]; decide, fun a ha q => absurd q (by show ¬ (0 : Int) = 1; decide)⟩, ?_, fr_tr hf (fS_sub hf2 (fun s hs => by simp [dC] at hs ⊢; omega)), by rw [up_nk (by decide), up_eq]⟩
      rw [fS_row hf2 rfl]; exact hL
    | succ j ih =>
      intro k μ1 hk hA hC hL hf
      have hI1 := iC_fr hI hf (by decide)
      have hkm : k < I.m := by omega
      have hb : 0 ≤ (k : Int) ∧ (k : Int) < 16 := by omega
      have hw : mj_w ((k : Int) + 1) = ((k + 1 : Nat) : Int) := by rw [wi (by omega) (by omega)]; omega
      have hr := pKey_nn hO hkm
      have hcm := hO.comes k hkm
      have h5 : ∀ x, x = pBegin I 1 k → mwV (kd (d + 2) 171 5 [some (v_r 21 0), some (v_r 6 0), some (v_i (k : Int))] [v_i x, v_i (k : Int), v_r 28 0] (mj_up (mj_up (mj_up (mj_up (mj_up μ1 22 0 k 0) 23 0 k (-1)) 24 0 k (-1)) 25 0 k (-1)) 26 0 k 0)) (fun μ' => (zC μ' I (pBegin I) ∧ wOK μ' I (pBegin I)) ∧ lOK (μ' 30 0) I I.m ∧ fr (fS dC) μ μ' ∧ μ' 21 0 10 = (I.m : Int)) := by
        intro x hx
        have hf2 : fr (fS [22, 23, 24, 25, 26, 28]) μ1 (mj_up (mj_up (mj_up (mj_up (mj_up (mj_up μ1 22 0 k 0) 23 0 k (-1)) 24 0 k (-1)) 25 0 k (-1)) 26 0 k 0) 28 0 k x) := fr_tr (fr_tr (fr_tr (fr_tr (fr_tr (fr_up rfl) (fr_up rfl)) (fr_up rfl)) (fr_up rfl)) (fr_up rfl)) (fr_up rfl)
        have hA2 : ∀ r i, r < 6 → i < k + 1 → mj_up (mj_up (mj_up (mj_up (mj_up (mj_up μ1 22 0 k 0) 23 0 k (-1)) 24 0 k (-1)) 25 0 k (-1)) 26 0 k 0) 28 0 k x (cS r) 0 i = pBegin I r i := by
          intro r i hr hi
          by_cases e : i = k
          · rw [e]
            match r, hr with
            | 0, _ => simp [up_ap, cS]; rfl
            | 1, _ => simp [up_ap, cS]; exact hx
            | 2, _ => simp [up_ap, cS]; rfl
            | 3, _ => simp [up_ap, cS]; rfl
            | 4, _ => simp [up_ap, cS]; rfl
            | 5, _ => simp [up_ap, cS]; rfl
          · rw [up_nk e, up_nk e, up_nk e, up_nk e, up_nk e, up_nk e]; exact hA r i hr (by omega)
        rw [ke171_5, if_pos hb, if_pos hb, Int.toNat_natCast]
        generalize mj_up (mj_up (mj_up (mj_up (mj_up (mj_up μ1 22 0 k 0) 23 0 k (-1)) 24 0 k (-1)) 25 0 k (-1)) 26 0 k 0) 28 0 k x = μ2 at hf2 hA2 ⊢
        have hI2 := iC_fr hI1 hf2 (by decide)
        have hL2 : lOK (μ2 30 0) I k := by rw [fS_row hf2 rfl]; exact hL
        have hplace : mj_w (mj_w (mj_w (mj_w (pRank I k * 120) + I.comes k) * 16) + (k : Int)) = pKey I k := by
          unfold pKey
          rw [wi (z := pRank I k * 120) (by omega) (by omega), wi (z := pRank I k * 120 + I.comes k) (by omega) (by omega), wi (z := (pRank I k * 120 + I.comes k) * 16) (by omega) (by omega), wi (by omega) (by omega)]
        rw [kc172 d k μ2 I t hI2 hkm, rI_some, if_pos hb, hI2.comes k hkm, hplace]
        refine mwV_rV (mwV_mono (kc173 (d + 1) k I μ2 hO hkm hL2) (fun μ3 h => ?_))
        obtain ⟨hL3, hf3⟩ := h
        rw [hw]
        refine ih (k + 1) μ3 (by omega) (fun r i hr hi => ?_) (fun i hi => ?_) hL3 (fr_tr (fr_tr hf (fS_sub hf2 (fun s hs => by simp [dC] at hs ⊢; omega))) (fS_sub hf3 (fun s hs => by simp [dC] at hs ⊢; omega)))
        · have hne : ([30] : List Nat).contains (cS r) = false := (by decide : ∀ r, r < 6 → ([30] : List Nat).contains (cS r) = false) r hr
          rw [fS_rd hf3 hne]; exact hA2 r i hr hi
        · rw [fS_rd hf3 rfl, fS_rd hf3 rfl, fS_rd hf2 rfl, fS_rd hf2 rfl]; exact hC i hi
      have hf5 : fr (fS dC) μ1 (mj_up (mj_up (mj_up (mj_up (mj_up μ1 22 0 k 0) 23 0 k (-1)) 24 0 k (-1)) 25 0 k (-1)) 26 0 k 0) := fr_tr (fr_tr (fr_tr (fr_tr (fr_up rfl) (fr_up rfl)) (fr_up rfl)) (fr_up rfl)) (fr_up rfl)
      have hI5 := iC_fr hI1 hf5 (by decide)
      rw [ke171_3, hI1.m, if_pos (by omega), if_pos hb, if_pos hb, if_pos hb, if_pos hb, if_pos hb, hI1.right, Int.toNat_natCast, (hI1.asker k hkm).2.1]
      by_cases h1 : I.right = 0
      · rw [if_pos h1, if_pos hb]; exact h5 _ (by show _ = (if I.right = 0 then I.letter k else pNeeds I k); rw [if_pos h1])
      · rw [if_neg h1, if_pos hb, kc167 (d + 1) k 2 _ I t hI5 hkm, rI_some]; exact h5 _ (by show _ = (if I.right = 0 then I.letter k else pNeeds I k); rw [if_neg h1])
  have l1 : ∀ j k (μ1 : mj_M), k + j = I.n → (∀ i, i < k → μ1 29 0 i = 0 ∧ μ1 27 0 i = 0) → fr (fS dC) μ μ1 →
      mwV (kd (d + 2) 171 1 [some (v_r 21 0), some (v_r 6 0), some (v_i (k : Int))] [] μ1) (fun μ' => (zC μ' I (pBegin I) ∧ wOK μ' I (pBegin I)) ∧ lOK (μ' 30 0) I I.m ∧ fr (fS dC) μ μ' ∧ μ' 21 0 10 = (I.m : Int)) := by
    intro j
    induction j with
    | zero =>
      intro k μ1 hk hC hf
      have hI1 := iC_fr hI hf (by decide)
      have e : k = I.n := by omega
      rw [e] at hC
      rw [ke171_1, hI1.n, if_neg (by omega)]
      exact l3 I.m 0 μ1 (by omega) (fun r i hr hi => absurd hi (Nat.not_lt_zero _)) hC ⟨fun i hi => absurd hi (Nat.not_lt_zero _), fun i j _ hj => absurd hj (Nat.not_lt_zero _), fun a ha => absurd ha (Nat.not_lt_zero _)⟩ hf
    | succ j ih =>
      intro k μ1 hk hC hf
      have hI1 := iC_fr hI hf (by decide)
      have hb : 0 ≤ (k : Int) ∧ (k : Int) < 4 := by omega
      have hw : mj_w ((k : Int) + 1) = ((k + 1 : Nat) : Int) := by rw [wi (by omega) (by omega)]; omega
      rw [ke171_1, hI1.n, if_pos (by omega), if_pos hb, if_pos hb, Int.toNat_natCast, hw]
      refine ih (k + 1) _ (by omega) (fun i hi => ?_) (fr_tr (fr_tr hf (fr_up rfl)) (fr_up rfl))
      by_cases e : i = k
      · rw [e]; exact ⟨by rw [up_ns (by decide), up_eq], up_eq _ _ _ _ _⟩
      · rw [up_ns (s' := 29) (s := 27) (by decide), up_nk e, up_nk (s' := 27) e, up_ns (s' := 27) (s := 29) (by decide)]
        exact hC i (by omega)
  rw [ke171_0]
  exact l1 I.n 0 μ (by omega) (fun i hi => absurd hi (Nat.not_lt_zero _)) fr_rf
