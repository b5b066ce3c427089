/-! counterTold, asks -/
theorem w3c (c w : Nat) (h : c < 4) (hw : w < 3) : mj_w (mj_w (3 * (c : Int)) + (w : Int)) = ((3 * c + w : Nat) : Int) ∧ (0 ≤ ((3 * c + w : Nat) : Int) ∧ ((3 * c + w : Nat) : Int) < 12) := by
  refine ⟨?_, ?_⟩
  · rw [wi (z := 3 * (c : Int)) (by omega) (by omega), wi (by omega) (by omega)]; omega
  · omega
theorem op_counterTold (d : Nat) (c w : Int) {μ ρ : mj_M} (h : Inv μ ρ) : mw2 (kc (d + 20) 2 [v_r 0 0, v_i c, v_i w] μ) (kc (d + 20) 79 [v_r 33 0, v_i c, v_i w] ρ) := by
  obtain ⟨I, t, hD, -⟩ := Inv_day h
  obtain ⟨n4, m16, t6, cn, rn, cm, rm⟩ := dAll_n hD
  rw [ke2_0, ke79_0, kc49 (d + 17) c μ I.n cn (by omega), kc74 (d + 17) c ρ I.n rn (by omega), rI_some, rI_some]
  by_cases q : 0 ≤ c ∧ c < (I.n : Int)
  · rw [b01_t q, if_neg n10, if_neg n10, kc44, kc72, rI_some, rI_some]
    by_cases qw : 0 ≤ w ∧ w ≤ 2
    · obtain ⟨k, rfl⟩ : ∃ k : Nat, c = k := ⟨c.toNat, by omega⟩
      obtain ⟨j, rfl⟩ : ∃ j : Nat, w = j := ⟨w.toNat, by omega⟩
      have hk : k < I.n := by omega
      have hb4 : 0 ≤ (k : Int) ∧ (k : Int) < 4 := by omega
      have hw := w3c k j (by omega) (by omega)
      rw [b01_t qw, if_neg n10, if_neg n10, ke52_0, if_pos hb4, if_pos hb4, if_pos hb4, hw.1, if_pos hw.2, Int.toNat_natCast, Int.toNat_natCast, hD.1.does k hk, hD.1.slow k hk, hD.1.pause k hk]
      have hj : j = 0 ∨ j = 1 ∨ j = 2 := by omega
      rcases hj with rfl | rfl | rfl
      · exact mw2_eq (hD.2.1.does k hk) h
      · exact mw2_eq (hD.2.1.slow k hk) h
      · exact mw2_eq (hD.2.1.pause k hk) h
    · rw [b01_f qw, if_pos rfl, if_pos rfl]; exact mw2_same _ h
  · rw [b01_f q, if_pos rfl, if_pos rfl]; exact mw2_same _ h
theorem op_asks (d : Nat) (a c w x y : Int) {μ ρ : mj_M} (h : Inv μ ρ) : mw2 (kc (d + 20) 12 [v_r 0 0, v_i a, v_i c, v_i w, v_i x, v_i y] μ) (kc (d + 20) 107 [v_r 33 0, v_i a, v_i c, v_i w, v_i x, v_i y] ρ) := by
  obtain ⟨I, t, hD, -⟩ := Inv_day h
  obtain ⟨n4, m16, t6, cn, rn, cm, rm⟩ := dAll_n hD
  rw [ke12_0, ke107_0, kc50 (d + 17) a μ I.m cm (by omega), kc75 (d + 17) a ρ I.m rm (by omega), rI_some, rI_some]
  by_cases qa : 0 ≤ a ∧ a < (I.m : Int)
  · rw [b01_t qa, if_neg n10, if_neg n10, kc49 (d + 17) c μ I.n cn (by omega), kc74 (d + 17) c ρ I.n rn (by omega), rI_some, rI_some]
    by_cases qc : 0 ≤ c ∧ c < (I.n : Int)
    · rw [b01_t qc, if_neg n10, if_neg n10, kc44, kc72, rI_some, rI_some]
      by_cases qw : 0 ≤ w ∧ w ≤ 999
      · rw [b01_t qw, if_neg n10, if_neg n10, kc44, kc72, rI_some, rI_some]
        by_cases qx : 0 ≤ x ∧ x ≤ 999
        · obtain ⟨k, rfl⟩ : ∃ k : Nat, a = k := ⟨a.toNat, by omega⟩
          obtain ⟨j, rfl⟩ : ∃ j : Nat, c = j := ⟨c.toNat, by omega⟩
          have hk : k < I.m := by omega
          have hj : j < I.n := by omega
          have hb16 : 0 ≤ (k : Int) ∧ (k : Int) < 16 := by omega
          have hb4 : 0 ≤ (j : Int) ∧ (j : Int) < 4 := by omega
          have ht : 0 ≤ (t : Int) ∧ (t : Int) < 6 := by omega
          obtain ⟨i0, i1, i2, i3⟩ := hD.1.asker k hk
          rw [b01_t qx, if_neg n10, if_neg n10, hD.2.2.2.1, if_pos ht, kc72, rI_some]
          by_cases qy : 0 ≤ y ∧ y ≤ 2
          · rw [b01_t qy, if_neg n10]
            have hy : y = 0 ∨ y = 1 ∨ y = 2 := by omega
            rcases hy with rfl | rfl | rfl
            · rw [if_pos rfl, if_pos rfl, if_pos hb16, if_pos hb16, if_pos hb4, Int.toNat_natCast, Int.toNat_natCast, Int.toNat_natCast]
              refine mw2_of (x := pTakes I k j w) h (mwI_rI (mwI_mono (kc215 (d + 17) 0 t k w (μ 3 0 j) 0 I.g I.e μ (by decide) hD.1.txt hD.2.2.1.txt) (fun z μ1 g => ?_))) (mwI_rI (mwI_mono (kc105 (d + 15) k j w ρ I t hD.2.1 hD.2.2.1 hk hj) (fun z ρ1 g => ?_)))
              · obtain ⟨g1, g2⟩ := g
                have hI1 := iC_fr hD.1 g2 (by decide)
                have e := kc169 (d + 17) k j 0 w μ1 I t hI1 hk
                rw [hD.2.2.2.2.1] at e
                rw [i1, i2, i3, hD.1.slow j hj] at g1
                rw [g1, show pNm (I.base k) (I.more k) (I.slow j) w 0 (I.letter k) = pAskNm I k (I.slow j) w 0 from rfl, e, rI_some]
                exact mwI_ret ⟨rfl, sC_S g2 (by decide)⟩
              · exact mwI_ret ⟨g.1, sR_S g.2 (by decide)⟩
            · rw [if_neg n10, if_neg n10, if_pos rfl, if_pos rfl, if_pos hb16, if_pos hb16, Int.toNat_natCast, Int.toNat_natCast]
              refine mw2_of (x := b01 (pThere I k w)) h (mwI_rI (mwI_mono (kc215 (d + 17) 1 t k w 0 0 I.g I.e μ (by decide) hD.1.txt hD.2.2.1.txt) (fun z μ1 g => ?_))) (mwI_rI (mwI_mono (kc106 (d + 15) k w ρ I t hD.2.1 hD.2.2.1 hk) (fun z ρ1 g => ?_)))
              · obtain ⟨g1, g2⟩ := g
                have hI1 := iC_fr hD.1 g2 (by decide)
                rw [i1, i2, i3] at g1
                rw [g1, show pNm (I.base k) (I.more k) 0 w 0 (I.letter k) = pAskNm I k 0 w 0 from rfl, kc168 (d + 17) k 0 w μ1 I t hI1 hD.2.2.1 hk ⟨qw.1, by omega⟩, rI_some]
                by_cases hp : pThere I k w
                · rw [b01_t hp, if_neg n10]; exact mwI_ret ⟨rfl, sC_S g2 (by decide)⟩
                · rw [b01_f hp, if_pos rfl]; exact mwI_ret ⟨rfl, sC_S g2 (by decide)⟩
              · obtain ⟨g1, g2⟩ := g
                rw [g1]
                by_cases hp : pThere I k w
                · rw [b01_t hp, if_neg n10]; exact mwI_ret ⟨rfl, sR_S g2 (by decide)⟩
                · rw [b01_f hp, if_pos rfl]; exact mwI_ret ⟨rfl, sR_S g2 (by decide)⟩
            · have n20 : ¬ (2 : Int) = 0 := by decide
              have n21 : ¬ (2 : Int) = 1 := by decide
              rw [if_neg n20, if_neg n20, if_neg n21, if_neg n21, if_pos rfl, if_pos hb16, Int.toNat_natCast, ke64_0, hD.2.2.2.1, if_pos ht, Int.toNat_natCast]
              refine mw2_of (x := pAsk I.g I.e 2 (pAskNm I k 0 w x)) h (mwI_rI (mwI_rI (mwI_mono (kc215 (d + 16) 2 t k w 0 x I.g I.e μ (by decide) hD.1.txt hD.2.2.1.txt) (fun z μ1 g => ?_)))) (mwI_rI (mwI_mono (kc98 (d + 16) 2 k t 0 w x I.g I.e ρ (by decide) (by omega) hD.2.1.law hD.2.1.rule hD.2.1.txt hD.2.2.1.txt) (fun z ρ1 g => ?_)))
              · obtain ⟨g1, g2⟩ := g
                rw [i1, i2, i3] at g1
                rw [kc45, rI_some, g1]
                refine mwI_ret (mwI_ret ⟨?_, sC_S g2 (by decide)⟩)
                rfl
              · obtain ⟨g1, g2⟩ := g
                rw [hD.2.1.base k hk, hD.2.1.more k hk, hD.2.1.letter k hk] at g1
                exact mwI_ret ⟨g1, sR_S g2 (by decide)⟩
          · rw [b01_f qy, if_pos rfl, if_neg (show ¬ y = 0 by omega), if_neg (show ¬ y = 1 by omega), if_neg (show ¬ y = 2 by omega)]; exact mw2_same _ h
        · rw [b01_f qx, if_pos rfl, if_pos rfl]; exact mw2_same _ h
      · rw [b01_f qw, if_pos rfl, if_pos rfl]; exact mw2_same _ h
    · rw [b01_f qc, if_pos rfl, if_pos rfl]; exact mw2_same _ h
  · rw [b01_f qa, if_pos rfl, if_pos rfl]; exact mw2_same _ h
