/-! when -/
theorem op_when (d : Nat) (L B w : Int) {μ ρ : mj_M} (h : Inv μ ρ) : mw2 (kc (d + 20) 28 [v_r 0 0, v_i L, v_i B, v_i w] μ) (kc (d + 20) 140 [v_r 33 0, v_i L, v_i B, v_i w] ρ) := by
  obtain ⟨I, t, hD, -⟩ := Inv_day h
  obtain ⟨n4, m16, t6, cn, rn, cm, rm⟩ := dAll_n hD
  rw [ke28_0, ke140_0, kc44, kc72, rI_some, rI_some]
  by_cases q1 : 0 ≤ L ∧ L ≤ 3
  · rw [b01_t q1, if_neg n10, if_neg n10, kc44, kc72, rI_some, rI_some]
    by_cases q2 : 1 ≤ B ∧ B ≤ 99
    · rw [b01_t q2, if_neg n10, if_neg n10, kc44, kc72, rI_some, rI_some]
      by_cases q3 : 0 ≤ w ∧ w ≤ 1
      · rw [b01_t q3, if_neg n10, if_neg n10, cm, rm]
        by_cases q : (I.m : Int) < 16
        · have hm16 : I.m < 16 := by omega
          have hm17 : I.m < 17 := by omega
          have hb16 : 0 ≤ (I.m : Int) ∧ (I.m : Int) < 16 := by omega
          have hb17 : 0 ≤ (I.m : Int) ∧ (I.m : Int) < 17 := by omega
          have hne : ¬ (I.m : Int) = 16 := by omega
          have hB0 : 0 ≤ B ∧ B ≤ 99 := by omega
          obtain ⟨e1, e2, e3, e4⟩ := when_n L B q1 q2
          obtain ⟨w1, w2⟩ := wk2 I.m (by omega)
          have hOk : ∀ y x, 0 ≤ x ∧ x ≤ 119 → iOK (uI (nwI I L B y) 4 I.m x) := fun y x hx => iOK_nw hD.2.2.1 hm16 q1 hB0 hx
          rw [if_pos q, if_pos hb16, if_neg hne, Int.toNat_natCast, ke163_0, rV_some, e1, ke100_0, rm, if_pos hb17, if_pos hb17, if_pos hb17, if_pos hb17, if_pos hb17, rV_some, Int.toNat_natCast, e2, e3, e4]
          have hμ7 : ∀ s i k, s ≠ 7 → mj_up (mj_up (mj_up (mj_up μ 7 I.m 0 0) 7 I.m 1 L) 7 I.m 2 B) 7 I.m 3 9 s i k = μ s i k := fun s i k hs => by rw [up_ns hs, up_ns hs, up_ns hs, up_ns hs]
          have hμi : ∀ s i k, i ≠ I.m → mj_up (mj_up (mj_up (mj_up μ 7 I.m 0 0) 7 I.m 1 L) 7 I.m 2 B) 7 I.m 3 9 s i k = μ s i k := fun s i k hs => by rw [up_ni hs, up_ni hs, up_ni hs, up_ni hs]
          have hμn : mj_up (mj_up (mj_up (mj_up μ 7 I.m 0 0) 7 I.m 1 L) 7 I.m 2 B) 7 I.m 3 9 7 I.m 0 = 0 ∧ mj_up (mj_up (mj_up (mj_up μ 7 I.m 0 0) 7 I.m 1 L) 7 I.m 2 B) 7 I.m 3 9 7 I.m 1 = L ∧ mj_up (mj_up (mj_up (mj_up μ 7 I.m 0 0) 7 I.m 1 L) 7 I.m 2 B) 7 I.m 3 9 7 I.m 2 = B ∧ mj_up (mj_up (mj_up (mj_up μ 7 I.m 0 0) 7 I.m 1 L) 7 I.m 2 B) 7 I.m 3 9 7 I.m 3 = 9 := by
            simp [up_ap]
          have hμf : fr hC μ (mj_up (mj_up (mj_up (mj_up μ 7 I.m 0 0) 7 I.m 1 L) 7 I.m 2 B) 7 I.m 3 9) := fr_tr (fr_tr (fr_tr (fr_up rfl) (fr_up rfl)) (fr_up rfl)) (fr_up rfl)
          generalize mj_up (mj_up (mj_up (mj_up μ 7 I.m 0 0) 7 I.m 1 L) 7 I.m 2 B) 7 I.m 3 9 = μ1 at hμ7 hμi hμn hμf ⊢
          have hρs : ∀ s i k, [35, 36, 37, 38, 39].contains s = false → mj_up (mj_up (mj_up (mj_up (mj_up ρ 35 0 I.m 0) 36 0 I.m L) 37 0 I.m B) 38 0 I.m 9) 39 0 I.m 0 s i k = ρ s i k := fun s i k hs => by
            obtain ⟨z1, z2, z3, z4, z5⟩ := no5 hs
            rw [up_ns z5, up_ns z4, up_ns z3, up_ns z2, up_ns z1]
          have hρk : ∀ s i k, k ≠ I.m → mj_up (mj_up (mj_up (mj_up (mj_up ρ 35 0 I.m 0) 36 0 I.m L) 37 0 I.m B) 38 0 I.m 9) 39 0 I.m 0 s i k = ρ s i k := fun s i k hs => by rw [up_nk hs, up_nk hs, up_nk hs, up_nk hs, up_nk hs]
          have hρn : mj_up (mj_up (mj_up (mj_up (mj_up ρ 35 0 I.m 0) 36 0 I.m L) 37 0 I.m B) 38 0 I.m 9) 39 0 I.m 0 35 0 I.m = 0 ∧ mj_up (mj_up (mj_up (mj_up (mj_up ρ 35 0 I.m 0) 36 0 I.m L) 37 0 I.m B) 38 0 I.m 9) 39 0 I.m 0 36 0 I.m = L ∧ mj_up (mj_up (mj_up (mj_up (mj_up ρ 35 0 I.m 0) 36 0 I.m L) 37 0 I.m B) 38 0 I.m 9) 39 0 I.m 0 37 0 I.m = B ∧ mj_up (mj_up (mj_up (mj_up (mj_up ρ 35 0 I.m 0) 36 0 I.m L) 37 0 I.m B) 38 0 I.m 9) 39 0 I.m 0 38 0 I.m = 9 ∧ mj_up (mj_up (mj_up (mj_up (mj_up ρ 35 0 I.m 0) 36 0 I.m L) 37 0 I.m B) 38 0 I.m 9) 39 0 I.m 0 39 0 I.m = 0 := by
            simp [up_ap]
          have hρf : fr hR ρ (mj_up (mj_up (mj_up (mj_up (mj_up ρ 35 0 I.m 0) 36 0 I.m L) 37 0 I.m B) 38 0 I.m 9) 39 0 I.m 0) := fr_tr (fr_tr (fr_tr (fr_tr (fr_up rfl) (fr_up rfl)) (fr_up rfl)) (fr_up rfl)) (fr_up rfl)
          generalize mj_up (mj_up (mj_up (mj_up (mj_up ρ 35 0 I.m 0) 36 0 I.m L) 37 0 I.m B) 38 0 I.m 9) 39 0 I.m 0 = ρ1 at hρs hρk hρn hρf ⊢
          have hInv1 : Inv μ1 ρ1 := Inv_when h cm hμ7 hμi hμf hρs hρk hρf
          have rm1 : ρ1 33 0 5 = (I.m : Int) := (hρs 33 0 5 rfl).trans rm
          rw [rm1, w2, w1]
          have hIC : iC μ1 0 I t := iC_7 hD.1 hμ7 hμi
          refine mw2_of (x := pPick w (pBst (nwI I L B 0) I.m)) hInv1 ?_ ?_
          · refine mwI_rV (mwV_mono (kc56 (d + 17) μ1 I t hIC hD.2.2.1 (by rw [hμ7 1 0 9 (by decide)]; exact hD.2.2.2.1) (Or.inl hD.2.2.2.2.1) (Or.inl hD.2.2.2.2.2)) (fun μ2 g => ?_))
            obtain ⟨g1, g2, g3, g4⟩ := g
            rw [g1.m, w1]
            have f7 : ∀ a k, mj_up μ2 1 2 4 ((I.m + 1 : Nat) : Int) 7 a k = μ1 7 a k := fun a k => by rw [up_ns (by decide)]; exact frP_ns g4 rfl a k
            have f7' : ∀ a k, μ2 7 a k = μ1 7 a k := fun a k => frP_ns g4 rfl a k
            have hiC : iC (mj_up μ2 1 2 4 ((I.m + 1 : Nat) : Int)) 2 (nwI I L B (μ2 5 2 I.m)) t := by
              refine iC_nw g1 (fun s i k hs hk => ?_) (up_eq _ _ _ _ _) (fun a k e => by rw [up_ns (by decide)]) (by rw [f7, f7, f7, f7]; exact hμn) rfl
              rw [up_ap, if_neg (fun q => hk ⟨q.1, q.2.2, q.2.1⟩)]
            have hT : tC μ1 (mj_up μ2 1 2 4 ((I.m + 1 : Nat) : Int)) (nwI I L B (μ2 5 2 I.m)) t := tC_set (I := I) ⟨g1, g2, sC_P g4⟩ hiC rfl (Or.inr (by decide))
            refine mwI_rV (mwV_mono (kc65 (d + 13) μ1 _ (nwI I L B (μ2 5 2 I.m)) t I.m (hOk _) t6 (Nat.lt_succ_self _) hm16 hT) (fun μ3 g5 => ?_))
            rw [kc190 (d + 18) w μ3 _ g5.1, rI_some]
            refine mwI_ret ⟨?_, g5.2⟩
            have hBe : hB (nwI I L B (μ2 5 2 I.m)) I.m = hB (nwI I L B 0) I.m := by
              funext k
              show pBadI (uI (nwI I L B (μ2 5 2 I.m)) 4 I.m (20 * (k : Int))) I.m = pBadI (uI (nwI I L B 0) 4 I.m (20 * (k : Int))) I.m
              rw [nwI_y, nwI_y]
            unfold pPick pBst
            rw [hBe]
          · have hiR : iR (mj_up ρ1 33 0 5 ((I.m + 1 : Nat) : Int)) (nwI I L B 0) t := by
              refine iR_nw hD.2.1 (fun s i k hs hk => ?_) (up_eq _ _ _ _ _) (fun s k e e2 => ?_) ?_
              · rw [up_ap, if_neg (fun q => hk ⟨q.1, q.2.1⟩)]; exact hρs s i k hs
              · rw [up_ns e2]; exact hρk s 0 k e
              · rw [up_ns (by decide), up_ns (by decide), up_ns (by decide), up_ns (by decide), up_ns (by decide)]; exact hρn
            refine mwI_rI (mwI_mono (kc136 (d + 10) _ (nwI I L B 0) t I.m (hOk _) (Nat.lt_succ_self _) hm17 hiR) (fun x ρ2 g => ?_))
            obtain ⟨rfl, g2, g3⟩ := g
            have h5 : ρ2 33 0 5 = ((I.m + 1 : Nat) : Int) := (g3 33 0 5 rfl).trans (up_eq _ _ _ _ _)
            have e5 : mj_w (((I.m + 1 : Nat) : Int) - 1) = (I.m : Int) := wk5 I.m m16
            have hfin : fr sR ρ1 (mj_up ρ2 33 0 5 (I.m : Int)) := fX_back (fr_tr fX_up (fX_fr g3)) rm1.symm
            rw [h5, e5, g2]
            by_cases hw : w = 0
            · rw [if_pos hw]; exact mwI_ret ⟨by unfold pPick; rw [if_pos hw], hfin⟩
            · rw [if_neg hw]; exact mwI_ret ⟨by unfold pPick; rw [if_neg hw], hfin⟩
        · have : (I.m : Int) = 16 := by omega
          rw [if_neg q, if_pos this]; exact mw2_same _ h
      · rw [b01_f q3, if_pos rfl, if_pos rfl]; exact mw2_same _ h
    · rw [b01_f q2, if_pos rfl, if_pos rfl]; exact mw2_same _ h
  · rw [b01_f q1, if_pos rfl, if_pos rfl]; exact mw2_same _ h
