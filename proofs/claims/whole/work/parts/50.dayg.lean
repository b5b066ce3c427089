/-! the class: who is first, and one call -/
theorem pBit_tb : ∀ D, D < 16 → ∀ k, k < 4 → pBit ((D : Nat) : Int) ((k : Nat) : Int) = 1 → Nat.testBit D k = true := by decide
theorem pBit_t {x k : Int} (hx : 0 ≤ x ∧ x ≤ 15) (hk : 0 ≤ k ∧ k < 4) (h : pBit x k = 1) : x.toNat.testBit k.toNat = true := by
  have e1 : ((x.toNat : Nat) : Int) = x := Int.toNat_of_nonneg hx.1
  have e2 : ((k.toNat : Nat) : Int) = k := Int.toNat_of_nonneg hk.1
  exact pBit_tb x.toNat (by omega) k.toNat (by omega) (by rw [e1, e2]; exact h)
theorem kc176 (d c : Nat) (μ : mj_M) (I : pI) (t : Nat) (Z : pZ) (tm : Int) (hI : iC μ 2 I t) (hO : iOK I) (hZ : zC μ I Z) (hz : zOK I tm Z) (hW : wOK μ I Z) (hL : lOK (μ 30 0) I I.m) (hc : c < I.n) :
    kc (d + 1) 176 [v_r 21 0, v_i (I.does c)] μ = some (some (v_i (pFirst I Z c)), μ) := by
  have hm := hO.m
  have hdoes := hO.does c hc
  rw [ke176_0, if_pos ⟨hdoes.1, hW.1⟩]
  by_cases q : (((I.does c).toNat &&& (μ 21 0 11).toNat : Nat) : Int) = 0
  · rw [if_pos q, pFirst_none]
    intro a ha hf
    have h1 := hW.2 a ha hf.1
    have h2 := pBit_t hdoes (hz a ha).1 hf.2
    have h3 : ((I.does c).toNat &&& (μ 21 0 11).toNat).testBit (Z 1 a).toNat = true := by rw [Nat.testBit_and, h1, h2]; rfl
    have h4 : (I.does c).toNat &&& (μ 21 0 11).toNat = 0 := by omega
    rw [h4, Nat.zero_testBit] at h3
    cases h3
  · rw [if_neg q]
    have main : ∀ j k (o : Option mj_V), k + j = I.m → (∀ i, i < k → ∀ a, a < I.m → μ 30 0 i = pKey I a → ¬ pFor I Z c a) → kd d 176 2 [some (v_r 21 0), some (v_i (I.does c)), some (v_i (k : Int)), o] [] μ = some (some (v_i (pFirst I Z c)), μ) := by
      intro j
      induction j with
      | zero =>
        intro k o hk h
        rw [ke176_2, hI.m, if_neg (by omega), pFirst_none]
        intro a ha hf
        obtain ⟨i, h1, h2⟩ := hL.2.2 a ha
        exact h i (by omega) a ha h2 hf
      | succ j ih =>
        intro k o hk h
        have hb : 0 ≤ (k : Int) ∧ (k : Int) < 16 := by omega
        have hw : mj_w ((k : Int) + 1) = ((k + 1 : Nat) : Int) := by rw [wi (by omega) (by omega)]; omega
        obtain ⟨a, ha, hka⟩ := hL.1 k (by omega)
        have hb2 : 0 ≤ (a : Int) ∧ (a : Int) < 16 := by omega
        have hza := (hz a ha).1
        have h22 : μ 22 0 a = Z 0 a := zC_a hZ ha 0 (by decide)
        have h28 : μ 28 0 a = Z 1 a := zC_a hZ ha 1 (by decide)
        have next : ¬ pFor I Z c a → kd d 176 2 [some (v_r 21 0), some (v_i (I.does c)), some (v_i (mj_w ((k : Int) + 1))), none] [] μ = some (some (v_i (pFirst I Z c)), μ) := by
          intro hn
          rw [hw]
          refine ih (k + 1) none (by omega) (fun i hi b hb he => ?_)
          by_cases e : i = k
          · have : a = b := pKey_inj hO ha hb (by rw [← hka, ← he, e])
            rw [← this]; exact hn
          · exact h i (by omega) b hb he
        rw [ke176_2, hI.m, if_pos (by omega), if_pos hb, Int.toNat_natCast, hka, pKey_mod hO ha, if_pos hb2, Int.toNat_natCast, h22]
        by_cases q1 : Z 0 a = 1
        · rw [if_pos q1, if_pos hb2, h28, if_pos (by omega), if_pos ⟨Int.ediv_nonneg hdoes.1 (pw2 _), by decide⟩]
          by_cases q2 : pBit (I.does c) (Z 1 a) = 1
          · have hf : pFor I Z c a := ⟨q1, q2⟩
            unfold pBit at q2
            rw [if_pos q2, pFirst_is hO ha hf]
            intro b hb' hfb
            obtain ⟨i, h1, h2⟩ := hL.2.2 b hb'
            rw [← hka, ← h2]
            rcases Nat.lt_trichotomy k i with e | e | e
            · exact Int.le_of_lt (hL.2.1 k i e h1)
            · rw [e]; exact Int.le_refl _
            · exact absurd hfb (h i e b hb' h2)
          · have hn : ¬ pFor I Z c a := fun p => q2 p.2
            unfold pBit at q2
            rw [if_neg q2]; exact next hn
        · rw [if_neg q1]; exact next (fun p => q1 p.1)
    exact main I.m 0 none (by omega) (fun i hi => absurd hi (Nat.not_lt_zero _))
def dW : List Nat := [12, 13, 21, 22, 23, 24, 25, 26, 27, 28, 29]
theorem zU_same {Z : pZ} {r k : Nat} {x : Int} (h : Z r k = x) : zU Z r k x = Z := by
  funext r' k'
  unfold zU
  by_cases e : r' = r ∧ k' = k
  · rw [if_pos e, e.1, e.2, h]
  · rw [if_neg e]
theorem kc177 (d a c : Nat) (tm : Int) (μ : mj_M) (I : pI) (t : Nat) (Z : pZ) (hI : iC μ 2 I t) (hO : iOK I) (hZ : zC μ I Z) (hz : zOK I tm Z) (ha : a < I.m) (hc : c < I.n) (h1 : Z 0 a = 1) (ht : 0 ≤ tm ∧ tm < 240) :
    mwV (kc (d + 3) 177 [v_r 21 0, v_r 7 a, v_r 9 t, v_i (a : Int), v_i (c : Int), v_i tm] μ) (fun μ' => (zC μ' I (pCall I c a tm Z) ∧ wOK μ' I (pCall I c a tm Z)) ∧ fr (fS dW) μ μ' ∧ μ' 21 0 10 = μ 21 0 10) := by
  have hm := hO.m
  have hn := hO.n
  have hb : 0 ≤ (a : Int) ∧ (a : Int) < 16 := by omega
  have hb4 : 0 ≤ (c : Int) ∧ (c : Int) < 4 := by omega
  have hca := (hz a ha).2 h1
  have hcm := hO.comes a ha
  have hne := pNeeds_03 hO ha
  have hdoes := hO.does c hc
  have hzc : zOK I tm (pCall I c a tm Z) := zOK_call hO hz ha h1
  have hw0 : mj_w (tm - I.comes a) = tm - I.comes a := wi (by omega) (by omega)
  have hww : 0 ≤ mj_w (tm - I.comes a) ∧ mj_w (tm - I.comes a) ≤ 1000 := by omega
  have fin : ∀ (μ5 : mj_M), zC μ5 I (pCall I c a tm Z) → fr (fS dW) μ μ5 → μ5 21 0 10 = μ 21 0 10 → mwV (mj_rV (kc (d + 2) 175 [v_r 21 0] μ5) fun m => some (none, m)) (fun μ' => (zC μ' I (pCall I c a tm Z) ∧ wOK μ' I (pCall I c a tm Z)) ∧ fr (fS dW) μ μ' ∧ μ' 21 0 10 = μ 21 0 10) := by
    intro μ5 hZ5 hf5 h10
    refine mwV_rV (mwV_mono (kc175 (d + 1) μ5 I t _ (iC_fr hI hf5 (by decide)) hO hZ5 (fun b hb => (hzc b hb).1)) (fun μ6 h => ?_))
    obtain ⟨h2, h3, h4⟩ := h
    exact mwV_ret ⟨⟨zC_fr hZ5 h3 (by decide), h2⟩, fr_tr hf5 (fS_sub h3 (fun s hs => by simp [dW] at hs ⊢; omega)), h4.trans h10⟩
  have h26 : μ 26 0 a = Z 5 a := zC_a hZ ha 5 (by decide)
  have h5a : μ 5 2 a = I.comes a := hI.comes a ha
  rw [ke177_0, if_pos hb, if_pos hb, if_pos hb, Int.toNat_natCast, h5a, h26]
  have hZ1 : zC (mj_up μ 26 0 a (mj_w (Z 5 a + 1))) I (zU Z 5 a (mj_w (Z 5 a + 1))) := zC_up hZ 5 a _ (by decide)
  have hf1 : fr (fS dW) μ (mj_up μ 26 0 a (mj_w (Z 5 a + 1))) := fr_up rfl
  have h101 : mj_up μ 26 0 a (mj_w (Z 5 a + 1)) 21 0 10 = μ 21 0 10 := up_ns (by decide)
  generalize mj_up μ 26 0 a (mj_w (Z 5 a + 1)) = μ1 at hZ1 hf1 h101 ⊢
  have hI1 := iC_fr hI hf1 (by decide)
  unfold pCall at fin ⊢
  generalize hw : mj_w (tm - I.comes a) = w at hww fin ⊢
  refine mwV_rI (mwI_mono (kc215 d 1 t a w 0 0 I.g I.e μ1 (by decide) hI1.txt hO.txt) (fun x μ2 h => ?_))
  obtain ⟨hx, hf2⟩ := h
  obtain ⟨-, k1, k2, k3⟩ := hI1.asker a ha
  rw [k1, k2, k3] at hx
  have hI2 := iC_fr hI1 hf2 (by decide)
  have hZ2 := zC_fr hZ1 hf2 (by decide)
  have hf02 : fr (fS dW) μ μ2 := fr_tr hf1 (fS_sub hf2 (fun s hs => by simp [dW] at hs ⊢; omega))
  have h102 : μ2 21 0 10 = μ 21 0 10 := (fS_rd hf2 rfl 0 10).trans h101
  rw [hx, show pNm (I.base a) (I.more a) 0 w 0 (I.letter a) = pAskNm I a 0 w 0 from rfl, kc168 d a 2 w μ2 I t hI2 hO ha hww, rI_some]
  by_cases hth : pThere I a w
  · rw [if_pos hth] at fin ⊢
    rw [b01_t hth, if_neg (by decide), if_pos hb4, kc167 (d + 1) a 2 μ2 I t hI2 ha, rI_some, if_pos (by omega), Int.toNat_natCast, hI2.does c hc, if_pos ⟨Int.ediv_nonneg hdoes.1 (pw2 _), by decide⟩]
    by_cases hbit : pBit (I.does c) (pNeeds I a) = 0
    · rw [if_pos hbit] at fin ⊢
      unfold pBit at hbit
      rw [if_pos hbit, kc167 (d + 1) a 2 μ2 I t hI2 ha, rI_some, if_pos hb]
      exact fin _ (zC_up hZ2 1 a _ (by decide)) (fr_tr hf02 (fr_up rfl)) ((up_ns (by decide)).trans h102)
    · rw [if_neg hbit] at fin ⊢
      unfold pBit at hbit
      rw [if_neg hbit, if_pos hb4, hI2.slow c hc]
      refine mwV_rI (mwI_mono (kc215 d 0 t a w (I.slow c) 0 I.g I.e μ2 (by decide) hI2.txt hO.txt) (fun x3 μ3 h => ?_))
      obtain ⟨hx3, hf3⟩ := h
      obtain ⟨-, j1, j2, j3⟩ := hI2.asker a ha
      rw [j1, j2, j3] at hx3
      have hI3 := iC_fr hI2 hf3 (by decide)
      have hZ3 := zC_fr hZ2 hf3 (by decide)
      have hf03 : fr (fS dW) μ μ3 := fr_tr hf02 (fS_sub hf3 (fun s hs => by simp [dW] at hs ⊢; omega))
      have h103 : μ3 21 0 10 = μ 21 0 10 := (fS_rd hf3 rfl 0 10).trans h102
      have hZ4 := zC_up (zC_up hZ3 0 a 2 (by decide)) 2 a tm (by decide)
      have hf4 : fr (fS dW) μ3 (mj_up (mj_up μ3 (cS 0) 0 a 2) (cS 2) 0 a tm) := fr_tr (fr_up rfl) (fr_up rfl)
      have hI4 := iC_fr hI3 hf4 (by decide)
      have h104 : mj_up (mj_up μ3 (cS 0) 0 a 2) (cS 2) 0 a tm 21 0 10 = μ 21 0 10 := (up_ns (by decide)).trans ((up_ns (by decide)).trans h103)
      rw [hx3, show pNm (I.base a) (I.more a) (I.slow c) w 0 (I.letter a) = pAskNm I a (I.slow c) w 0 from rfl, if_pos hb, if_pos hb, hI3.quick]
      have e169 := kc169 d a c 2 w (mj_up (mj_up μ3 (cS 0) 0 a 2) (cS 2) 0 a tm) I t hI4 ha
      rw [show cS 0 = 22 from rfl, show cS 2 = 23 from rfl] at e169
      rw [e169, rI_some, if_pos hb, if_pos hb, if_pos hb, if_pos hb4, up_eq]
      exact fin _ (zC_up (zC_up (zC_up hZ4 3 a _ (by decide)) 4 a _ (by decide)) 6 c _ (by decide)) (fr_tr (fr_tr (fr_tr (fr_tr hf03 hf4) (fr_up rfl)) (fr_up rfl)) (fr_up rfl)) ((up_ns (by decide)).trans ((up_ns (by decide)).trans ((up_ns (by decide)).trans h104)))
  · rw [if_neg hth] at fin ⊢
    rw [b01_f hth, if_pos rfl, if_pos hb]
    have h26' : μ2 26 0 a = mj_w (Z 5 a + 1) := (zC_a hZ2 ha 5 (by decide)).trans (by unfold zU; rw [if_pos ⟨rfl, rfl⟩])
    rw [h26', hI2.called]
    by_cases h3 : mj_w (Z 5 a + 1) < I.called
    · rw [if_pos h3] at fin ⊢
      rw [if_pos h3]
      refine fin _ ?_ hf02 h102
      rw [zU_same (show zU Z 5 a (mj_w (Z 5 a + 1)) 0 a = 1 by unfold zU; rw [if_neg (fun p => absurd p.1 (by decide))]; exact h1)]
      exact hZ2
    · rw [if_neg h3] at fin ⊢
      rw [if_neg h3, if_pos hb]
      exact fin _ (zC_up hZ2 0 a _ (by decide)) (fr_tr hf02 (fr_up rfl)) ((up_ns (by decide)).trans h102)
