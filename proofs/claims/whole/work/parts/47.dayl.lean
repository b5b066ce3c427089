def pComesK (I : pI) (t : Int) (k : Nat) (Z : pZ) : pZ := fun r a => if r = 0 ∧ a < k ∧ I.comes a = t then (if t < I.stop then 1 else 4) else Z r a
theorem pComesK_0 (I : pI) (t : Int) (Z : pZ) : pComesK I t 0 Z = Z := by
  funext r a; unfold pComesK; rw [if_neg (by omega)]
theorem pComesK_m (I : pI) (t : Int) (Z : pZ) : pComesK I t I.m Z = pComes I t Z := rfl
theorem pComesK_y (I : pI) (t : Int) (k : Nat) (Z : pZ) (h : I.comes k = t) : pComesK I t (k + 1) Z = zU (pComesK I t k Z) 0 k (if t < I.stop then 1 else 4) := by
  funext r a
  show (if r = 0 ∧ a < k + 1 ∧ I.comes a = t then (if t < I.stop then 1 else 4) else Z r a) = (if r = 0 ∧ a = k then (if t < I.stop then 1 else 4) else (if r = 0 ∧ a < k ∧ I.comes a = t then (if t < I.stop then 1 else 4) else Z r a))
  by_cases e : r = 0 ∧ a = k
  · rw [if_pos e, if_pos ⟨e.1, by omega, by rw [e.2]; exact h⟩]
  · rw [if_neg e]
    by_cases q : r = 0 ∧ a < k ∧ I.comes a = t
    · rw [if_pos q, if_pos ⟨q.1, by omega, q.2.2⟩]
    · rw [if_neg q, if_neg (fun p => q ⟨p.1, by have := p.2.1; have := fun h => e ⟨p.1, h⟩; omega, p.2.2⟩)]
theorem pComesK_n (I : pI) (t : Int) (k : Nat) (Z : pZ) (h : ¬ I.comes k = t) : pComesK I t (k + 1) Z = pComesK I t k Z := by
  funext r a
  show (if r = 0 ∧ a < k + 1 ∧ I.comes a = t then (if t < I.stop then 1 else 4) else Z r a) = (if r = 0 ∧ a < k ∧ I.comes a = t then (if t < I.stop then 1 else 4) else Z r a)
  by_cases q : r = 0 ∧ a < k ∧ I.comes a = t
  · rw [if_pos q, if_pos ⟨q.1, by omega, q.2.2⟩]
  · rw [if_neg q, if_neg (fun p => q ⟨p.1, by have := p.2.1; have : a ≠ k := fun h' => h (h' ▸ p.2.2); omega, p.2.2⟩)]
theorem kc111 (d : Nat) (tm : Int) (I : pI) (t : Nat) (Z : pZ) (ρ : mj_M) (hO : iOK I) (ht : 0 ≤ tm ∧ tm < 240) (hz : zOK I (tm - 1) Z) (hI : iR ρ I t) (hZ : zR ρ I Z) :
    mwV (kc (d + 6) 111 [v_r 33 0, v_i tm] ρ) (fun ρ' => zR ρ' I (pMinute I tm Z) ∧ fr (fS dR) ρ ρ') := by
  have hn := hO.n
  have hm := hO.m
  have main : ∀ j k o1 o2 o3 (ρ1 : mj_M), k + j = I.m → iR ρ1 I t → zR ρ1 I (pComesK I tm k Z) → fr (fS dR) ρ ρ1 →
      mwV (kd (d + 5) 111 1 [some (v_r 33 0), some (v_i tm), some (v_i (k : Int)), o1, o2, o3] [] ρ1) (fun ρ' => zR ρ' I (pMinute I tm Z) ∧ fr (fS dR) ρ ρ') := by
    intro j
    induction j with
    | zero =>
      intro k o1 o2 o3 ρ1 hk hI hZ hf
      have hkm : k = I.m := by omega
      rw [ke111_1, hI.m, if_neg (by omega)]
      rw [hkm, pComesK_m] at hZ
      exact kd111 d tm I t (pComes I tm Z) hO ht (zOK_counters hO (zOK_comes hz)) ρ I.n 0 _ _ _ ρ1 (by omega) hI hZ hf
    | succ j ih =>
      intro k o1 o2 o3 ρ1 hk hI hZ hf
      have hb : 0 ≤ (k : Int) ∧ (k : Int) < 17 := by omega
      have hw : mj_w ((k : Int) + 1) = ((k + 1 : Nat) : Int) := by rw [wi (by omega) (by omega)]; omega
      rw [ke111_1, hI.m, if_pos (by omega), if_pos hb, Int.toNat_natCast, hI.comes k (by omega), hI.stop, hw]
      by_cases h1 : I.comes k = tm
      · rw [if_pos h1]
        have hq := pComesK_y I tm k Z h1
        by_cases h2 : tm < I.stop
        · rw [if_pos h2] at hq
          rw [if_pos h2, if_pos hb]
          refine ih (k + 1) _ _ _ _ (by omega) (iR_fr (l := dR) hI (fr_up rfl) (by decide)) ?_ (fr_tr hf (fr_up rfl))
          rw [hq]; exact zR_up hZ 0 k 1
        · rw [if_neg h2] at hq
          rw [if_neg h2, if_pos hb]
          refine ih (k + 1) _ _ _ _ (by omega) (iR_fr (l := dR) hI (fr_up rfl) (by decide)) ?_ (fr_tr hf (fr_up rfl))
          rw [hq]; exact zR_up hZ 0 k 4
      · rw [if_neg h1]
        refine ih (k + 1) _ _ _ _ (by omega) hI ?_ hf
        rw [pComesK_n I tm k Z h1]; exact hZ
  rw [ke111_0]
  exact main I.m 0 _ _ _ ρ (by omega) hI (by rw [pComesK_0]; exact hZ) fr_rf
theorem kc112 (d : Nat) (I : pI) (t : Nat) (ρ : mj_M) (hO : iOK I) (hI : iR ρ I t) :
    mwV (kc (d + 7) 112 [v_r 33 0] ρ) (fun ρ' => zR ρ' I (pLife I) ∧ fr (fS dR) ρ ρ') := by
  have hn := hO.n
  have hm := hO.m
  have l7 : ∀ j k (ρ1 : mj_M), k + j = 240 → iR ρ1 I t → zR ρ1 I (pDay I k) → fr (fS dR) ρ ρ1 →
      mwV (kd (d + 6) 112 7 [some (v_r 33 0), some (v_i (k : Int))] [] ρ1) (fun ρ' => zR ρ' I (pLife I) ∧ fr (fS dR) ρ ρ') := by
    intro j
    induction j with
    | zero =>
      intro k ρ1 hk hI hZ hf
      have : k = 240 := by omega
      rw [ke112_7, if_neg (by omega)]
      rw [this] at hZ
      exact mwV_ret ⟨hZ, hf⟩
    | succ j ih =>
      intro k ρ1 hk hI hZ hf
      have hw : mj_w ((k : Int) + 1) = ((k + 1 : Nat) : Int) := by rw [wi (by omega) (by omega)]; omega
      rw [ke112_7, if_pos (by omega), hw]
      refine mwV_rV (mwV_mono (kc111 d k I t (pDay I k) ρ1 hO (by omega) (zOK_day hO k) hI hZ) (fun ρ2 h => ?_))
      exact ih (k + 1) ρ2 (by omega) (iR_fr hI h.2 (by decide)) h.1 (fr_tr hf h.2)
  have l5 : ∀ j k (ρ1 : mj_M), k + j = 4 → iR ρ1 I t → (∀ r i, r < 6 → i < I.m → ρ1 (53 + r) 0 i = pBegin I r i) → (∀ i, i < k → ρ1 59 0 i = 0 ∧ ρ1 60 0 i = 0) → fr (fS dR) ρ ρ1 →
      mwV (kd (d + 6) 112 5 [some (v_r 33 0), some (v_i (k : Int))] [] ρ1) (fun ρ' => zR ρ' I (pLife I) ∧ fr (fS dR) ρ ρ') := by
    intro j
    induction j with
    | zero =>
      intro k ρ1 hk hI hA hC hf
      rw [ke112_5, if_neg (by omega)]
      refine l7 240 0 ρ1 (by omega) hI ?_ hf
      intro r i hr hi
      unfold pW4 at hi
      by_cases q : r < 6
      · rw [if_pos q] at hi; exact hA r i q hi
      · rw [if_neg q] at hi
        have := hC i (by omega)
        have h67 : r = 6 ∨ r = 7 := by omega
        rcases h67 with rfl | rfl
        · exact this.1
        · exact this.2
    | succ j ih =>
      intro k ρ1 hk hI hA hC hf
      have hb : 0 ≤ (k : Int) ∧ (k : Int) < 4 := by omega
      have hw : mj_w ((k : Int) + 1) = ((k + 1 : Nat) : Int) := by rw [wi (by omega) (by omega)]; omega
      have hf2 : fr (fS dR) ρ1 (mj_up (mj_up ρ1 59 0 k 0) 60 0 k 0) := fr_tr (fr_up rfl) (fr_up rfl)
      rw [ke112_5, if_pos (by omega), if_pos hb, if_pos hb, Int.toNat_natCast, hw]
      refine ih (k + 1) _ (by omega) (iR_fr hI hf2 (by decide)) (fun r i hr hi => ?_) (fun i hi => ?_) (fr_tr hf hf2)
      · rw [up_ns (by omega), up_ns (by omega)]; exact hA r i hr hi
      · by_cases e : i = k
        · rw [e]; exact ⟨by rw [up_ns (by decide), up_eq], up_eq _ _ _ _ _⟩
        · rw [up_ns (s' := 59) (s := 60) (by decide), up_nk e, up_nk (s' := 60) e, up_ns (s' := 60) (s := 59) (by decide)]
          exact hC i (by omega)
  have l1 : ∀ j k (ρ1 : mj_M), k + j = I.m → iR ρ1 I t → (∀ r i, r < 6 → i < k → ρ1 (53 + r) 0 i = pBegin I r i) → fr (fS dR) ρ ρ1 →
      mwV (kd (d + 6) 112 1 [some (v_r 33 0), some (v_i (k : Int))] [] ρ1) (fun ρ' => zR ρ' I (pLife I) ∧ fr (fS dR) ρ ρ') := by
    intro j
    induction j with
    | zero =>
      intro k ρ1 hk hI hA hf
      have : k = I.m := by omega
      rw [ke112_1, hI.m, if_neg (by omega)]
      rw [this] at hA
      exact l5 4 0 ρ1 (by omega) hI hA (fun i hi => absurd hi (Nat.not_lt_zero _)) hf
    | succ j ih =>
      intro k ρ1 hk hI hA hf
      have hkm : k < I.m := by omega
      have hb : 0 ≤ (k : Int) ∧ (k : Int) < 17 := by omega
      have hw : mj_w ((k : Int) + 1) = ((k + 1 : Nat) : Int) := by rw [wi (by omega) (by omega)]; omega
      have h3 : ∀ x, x = pBegin I 1 k → mwV (kd (d + 6) 112 3 [some (v_r 33 0), some (v_i (k : Int))] [v_i x, v_i (k : Int), v_r 54 0] (mj_up ρ1 53 0 k 0)) (fun ρ' => zR ρ' I (pLife I) ∧ fr (fS dR) ρ ρ') := by
        intro x hx
        have hf2 : fr (fS dR) ρ1 (mj_up (mj_up (mj_up (mj_up (mj_up (mj_up ρ1 53 0 k 0) 54 0 k x) 55 0 k (-1)) 56 0 k (-1)) 57 0 k (-1)) 58 0 k 0) := fr_tr (fr_tr (fr_tr (fr_tr (fr_tr (fr_up rfl) (fr_up rfl)) (fr_up rfl)) (fr_up rfl)) (fr_up rfl)) (fr_up rfl)
        rw [ke112_3, if_pos hb, if_pos hb, if_pos hb, if_pos hb, if_pos hb, Int.toNat_natCast, hw]
        refine ih (k + 1) _ (by omega) (iR_fr hI hf2 (by decide)) (fun r i hr hi => ?_) (fr_tr hf hf2)
        by_cases e : i = k
        · rw [e]
          match r, hr with
          | 0, _ => simp [up_ap]; rfl
          | 1, _ => simp [up_ap]; exact hx
          | 2, _ => simp [up_ap]; rfl
          | 3, _ => simp [up_ap]; rfl
          | 4, _ => simp [up_ap]; rfl
          | 5, _ => simp [up_ap]; rfl
        · rw [up_nk e, up_nk e, up_nk e, up_nk e, up_nk e, up_nk e]; exact hA r i hr (by omega)
      have hI2 : iR (mj_up ρ1 53 0 k 0) I t := iR_fr (l := dR) hI (fr_up rfl) (by decide)
      rw [ke112_1, hI.m, if_pos (by omega), if_pos hb, hI.right, if_pos hb, Int.toNat_natCast, hI.letter k hkm]
      by_cases h1 : I.right = 0
      · rw [if_pos h1]; exact h3 _ (by show _ = (if I.right = 0 then I.letter k else pNeeds I k); rw [if_pos h1])
      · rw [if_neg h1, kc103 (d + 5) k _ I t hI2 hO hkm, rI_some]; exact h3 _ (by show _ = (if I.right = 0 then I.letter k else pNeeds I k); rw [if_neg h1])
  rw [ke112_0]
  exact l1 I.m 0 ρ (by omega) hI (fun r i hr hi => absurd hi (Nat.not_lt_zero _)) fr_rf
