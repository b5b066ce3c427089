theorem kc170 (d : Nat) (μ : mj_M) (I : pI) (t : Nat) (hI : iC μ 2 I t) (hO : iOK I) :
    mwV (kc (d + 4) 170 [v_r 21 0, v_r 6 0, v_r 9 t] μ) (fun μ' => zC μ' I (pLife I) ∧ fr (fS dC) μ μ') := by
  have hm := hO.m
  have hn := hO.n
  have l1 : ∀ j k o1 o2 (μ1 : mj_M), k + j = 240 → zC μ1 I (pDay I k) → wOK μ1 I (pDay I k) → lOK (μ1 30 0) I I.m → fr (fS dC) μ μ1 → μ1 21 0 10 = pCG I (k : Int) I.m →
      mwV (kd (d + 3) 170 1 [some (v_r 21 0), some (v_r 6 0), some (v_r 9 t), some (v_i (k : Int)), o1, o2] [] μ1) (fun μ' => zC μ' I (pLife I) ∧ fr (fS dC) μ μ') := by
    intro j
    induction j with
    | zero =>
      intro k o1 o2 μ1 hk hZ hW hL hf h10
      have e : k = 240 := by omega
      rw [e] at hZ
      rw [ke170_1, if_neg (by omega)]
      exact mwV_ret ⟨hZ, hf⟩
    | succ j ih =>
      intro k o1 o2 μ1 hk hZ hW hL hf h10
      have hI1 := iC_fr hI hf (by decide)
      have ht : 0 ≤ (k : Int) ∧ (k : Int) < 240 := by omega
      have hwk : mj_w ((k : Int) + 1) = ((k + 1 : Nat) : Int) := by rw [wi (by omega) (by omega)]; omega
      have hzk := zOK_day hO k
      have hgb := pCG_b I (k : Int) I.m
      have hgs := pCG_step I (k : Int) I.m
      have l3 : ∀ jj c o3 (μ2 : mj_M), c + jj = I.n → zC μ2 I (pCounters I (k : Int) c (pComes I (k : Int) (pDay I k))) → wOK μ2 I (pCounters I (k : Int) c (pComes I (k : Int) (pDay I k))) → lOK (μ2 30 0) I I.m → fr (fS dC) μ μ2 → μ2 21 0 10 = pCG I ((k : Int) + 1) I.m →
          mwV (kd (d + 3) 170 3 [some (v_r 21 0), some (v_r 6 0), some (v_r 9 t), some (v_i (k : Int)), some (v_i (c : Int)), o3] [] μ2) (fun μ' => zC μ' I (pLife I) ∧ fr (fS dC) μ μ') := by
        intro jj
        induction jj with
        | zero =>
          intro c o3 μ2 hc hZ2 hW2 hL2 hf2 h102
          have hI2 := iC_fr hI hf2 (by decide)
          have e : c = I.n := by omega
          rw [e] at hZ2 hW2
          rw [ke170_3, hI2.n, if_neg (by omega), hwk]
          exact ih (k + 1) _ _ μ2 (by omega) hZ2 hW2 hL2 hf2 (by rw [h102]; congr 1)
        | succ jj ihc =>
          intro c o3 μ2 hc hZ2 hW2 hL2 hf2 h102
          have hI2 := iC_fr hI hf2 (by decide)
          have hcn : c < I.n := by omega
          have hb4 : 0 ≤ (c : Int) ∧ (c : Int) < 4 := by omega
          have hw : mj_w ((c : Int) + 1) = ((c + 1 : Nat) : Int) := by rw [wi (by omega) (by omega)]; omega
          have hzc : zOK I (k : Int) (pCounters I (k : Int) c (pComes I (k : Int) (pDay I k))) := zOK_counters hO (zOK_comes hzk) c
          have hstep : pCounters I (k : Int) (c + 1) (pComes I (k : Int) (pDay I k)) = pCounter I (k : Int) c (pCounters I (k : Int) c (pComes I (k : Int) (pDay I k))) := rfl
          generalize pCounters I (k : Int) c (pComes I (k : Int) (pDay I k)) = Zc at hZ2 hW2 hzc hstep
          have h29 : μ2 29 0 c = Zc 6 c := zC_c hZ2 hcn 6 (by decide) (by decide)
          have h27 : μ2 27 0 c = Zc 7 c := zC_c hZ2 hcn 7 (by decide) (by decide)
          rw [ke170_3, hI2.n, if_pos (by omega), if_pos hb4, Int.toNat_natCast, h29, hw]
          unfold pCounter at hstep
          by_cases q1 : (k : Int) < Zc 6 c
          · rw [if_pos q1] at hstep
            rw [if_pos q1]
            exact ihc (c + 1) _ μ2 (by omega) (by rw [hstep]; exact hZ2) (by rw [hstep]; exact hW2) hL2 hf2 h102
          rw [if_neg q1] at hstep
          rw [if_neg q1, kc193 (d + 1) c 2 (k : Int) μ2 I t hI2 hO hcn, rI_some]
          by_cases q2 : pPausing I c (k : Int)
          · rw [if_pos q2] at hstep
            rw [b01_t q2, if_neg (by decide)]
            exact ihc (c + 1) _ μ2 (by omega) (by rw [hstep]; exact hZ2) (by rw [hstep]; exact hW2) hL2 hf2 h102
          rw [if_neg q2] at hstep
          rw [b01_f q2, if_pos rfl, if_pos hb4, hI2.does c hcn, kc176 (d + 2) c μ2 I t Zc (k : Int) hI2 hO hZ2 hzc hW2 hL2 hcn, rI_some]
          by_cases q3 : pFirst I Zc c = -1
          · rw [if_pos q3] at hstep
            rw [if_pos q3, if_pos hb4, if_pos hb4, h27]
            refine ihc (c + 1) _ _ (by omega) (by rw [hstep]; exact zC_up hZ2 7 c _ (by decide)) ?_ ?_ (fr_tr hf2 (fr_up rfl)) (by rw [up_ns (by decide)]; exact h102)
            · rw [hstep]
              refine ⟨by rw [up_ns (by decide)]; exact hW2.1, fun a ha q => ?_⟩
              rw [up_ns (by decide)]
              have r0 : ∀ r, r < 2 → zU Zc 7 c (mj_w (Zc 7 c + 1)) r a = Zc r a := fun r hr => if_neg (fun p => by have := p.1; omega)
              rw [r0 0 (by decide)] at q
              rw [r0 1 (by decide)]
              exact hW2.2 a ha q
            · have : mj_up μ2 27 0 c (mj_w (Zc 7 c + 1)) 30 0 = μ2 30 0 := funext fun i => up_ns (by decide)
              rw [this]; exact hL2
          · rw [if_neg q3] at hstep
            rw [if_neg q3]
            rcases pFirst_lt I Zc c with h4 | ⟨i, h4, h5, h6⟩
            · exact absurd h4 q3
            · rw [h5, Int.toNat_natCast] at hstep
              rw [h5, if_pos (by omega), Int.toNat_natCast]
              refine mwV_rV (mwV_mono (kc177 d i c (k : Int) μ2 I t Zc hI2 hO hZ2 hzc h4 hcn h6.1 ht) (fun μ3 h => ?_))
              obtain ⟨⟨g1, g2⟩, g3, g4⟩ := h
              refine ihc (c + 1) _ μ3 (by omega) (by rw [hstep]; exact g1) (by rw [hstep]; exact g2) ?_ (fr_tr hf2 (fS_sub g3 (fun s hs => by simp [dC, dW] at hs ⊢; omega))) (g4.trans h102)
              rw [fS_row g3 rfl]; exact hL2
      rw [ke170_1, if_pos (by omega), h10]
      by_cases q : 0 < pCG I (k : Int) I.m
      · rw [if_pos q]
        refine mwV_rV (mwV_mono (kc174 (d + 1) (k : Int) μ1 I t (pDay I k) hI1 hO hZ hzk (by omega)) (fun μ2 h => ?_))
        obtain ⟨⟨g1, g2⟩, g3, g4⟩ := h
        refine l3 I.n 0 _ μ2 (by omega) g1 g2 (by rw [fS_row g3 rfl]; exact hL) (fr_tr hf (fS_sub g3 (fun s hs => by simp [dC, dW] at hs ⊢; omega))) (by rw [g4, h10]; omega)
      · rw [if_neg q]
        have h0 : pCG I (k : Int) I.m = 0 := by omega
        have hnone := pCG_0 I (k : Int) I.m h0
        have hid : pComes I (k : Int) (pDay I k) = pDay I k := by
          funext r a
          unfold pComes
          rw [if_neg (fun p => hnone a p.2.1 (by omega))]
        exact l3 I.n 0 _ μ1 (by omega) (by show zC μ1 I (pComes I (k : Int) (pDay I k)); rw [hid]; exact hZ) (by show wOK μ1 I (pComes I (k : Int) (pDay I k)); rw [hid]; exact hW) hL hf (by rw [h10]; have := pCG_b I ((k : Int) + 1) I.m; omega)
  rw [ke170_0]
  refine mwV_rV (mwV_mono (kc171 d μ I t hI hO) (fun μ1 h => ?_))
  obtain ⟨⟨g1, g2⟩, g3, g4, g5⟩ := h
  exact l1 240 0 _ _ μ1 (by omega) g1 g2 g3 g4 (by rw [g5]; exact (pCG_all (0 : Int) I.m (fun a ha => (hO.comes a ha).1)).symm)
