/-! feed -/
def pT : Nat → Nat → Nat → Bool := fun s _ k => s == 15 || (s == 14 && k == 1)
def qT : Nat → Nat → Nat → Bool := fun s _ k => s == 40 || (s == 33 && k == 12)
theorem Inv_tape {μ ρ μ' ρ' : mj_M} {n m t tc z z' : Nat} (h : vAll (mC μ) (mR ρ) n m t tc z) (f : fr pT μ μ') (f' : fr qT ρ ρ') (H : vTape (mC μ') (mR ρ') z') : vAll (mC μ') (mR ρ') n m t tc z' := by
  obtain ⟨⟨⟨a1, a2, a3, a4, a5, a6⟩, ⟨⟨b1, b1'⟩, ⟨b2, b2'⟩, ⟨b3, b3'⟩⟩, ⟨c1, c2, c3, c4⟩, hcs, has⟩, hT, -, hM, hS⟩ := h
  have g := mC_frm f
  have g' := mR_frm f'
  refine ⟨⟨⟨a1, a2, ?_, ?_, ?_, ?_⟩, ⟨⟨?_, ?_⟩, ⟨?_, ?_⟩, ⟨?_, ?_⟩⟩, ⟨?_, ?_, ?_, ?_⟩, fun c hc => ?_, fun a ha => ?_⟩, vText_cg hT (fr_no g (fun s i k q => by simp [pT] at q; simp [nT]; omega)) (fr_no g' (fun s i k q => by simp [qT] at q; simp [nT']; omega)), H, vImg_cg hM (fr_no g (fun s i k q => by simp [pT] at q; simp [nM]; omega)) (fr_no g' (fun s i k q => by simp [qT] at q; simp [nM']; omega)), vSheets_cg hS (fr_no g (fun s i k q => by simp [pT] at q; simp [nS]; omega)) (fr_no g' (fun s i k q => by simp [qT] at q; simp [nS']; omega))⟩
  · rw [g 1 0 0 rfl]; exact a3
  · rw [g' 33 0 0 rfl]; exact a4
  · rw [g 1 0 4 rfl]; exact a5
  · rw [g' 33 0 5 rfl]; exact a6
  · rw [g 1 0 6 rfl, g' 33 0 2 rfl]; exact b1
  · rw [g 1 0 6 rfl]; exact b1'
  · rw [g 1 0 7 rfl, g' 33 0 3 rfl]; exact b2
  · rw [g 1 0 7 rfl]; exact b2'
  · rw [g 1 0 8 rfl, g' 33 0 4 rfl]; exact b3
  · rw [g 1 0 8 rfl]; exact b3'
  · rw [g 1 0 10 rfl]; exact c1
  · rw [g 1 0 11 rfl]; exact c2
  · rw [g' 33 0 41 rfl]; exact c3
  · rw [g' 33 0 50 rfl]; exact c4
  · rw [g 2 0 c rfl, g 3 0 c rfl, g 4 0 c rfl, g' 34 0 _ rfl, g' 34 0 _ rfl, g' 34 0 _ rfl]; exact hcs c hc
  · rw [g 7 a 0 rfl, g 7 a 1 rfl, g 7 a 2 rfl, g 7 a 3 rfl, g 5 0 a rfl, g' 35 0 a rfl, g' 36 0 a rfl, g' 37 0 a rfl, g' 38 0 a rfl, g' 39 0 a rfl]; exact has a ha
theorem Inv_put {μ ρ : mj_M} {n m t tc z : Nat} {x : Int} (h : vAll (mC μ) (mR ρ) n m t tc z) (hz : z < 160) (hx : rg x 0 255) : vAll (mC (mj_up (mj_up μ 15 0 z x) 14 0 1 ((z + 1 : Nat) : Int))) (mR (mj_up (mj_up ρ 40 0 z x) 33 0 12 ((z + 1 : Nat) : Int))) n m t tc (z + 1) := by
  have h0 := h
  obtain ⟨-, -, ⟨-, hP⟩, -⟩ := h
  refine Inv_tape h0 (fr_tr (fr_up rfl) (fr_up rfl)) (fr_tr (fr_up rfl) (fr_up rfl)) ?_
  rw [mC_up rfl, mC_up rfl, mR_up rfl, mR_up rfl]
  refine ⟨⟨by omega, up_eq _ _ _ _ _, up_eq _ _ _ _ _⟩, fun i => ⟨fun hi => ?_, fun hi => ?_⟩⟩
  · rw [up_ns (s' := 40) (by decide), up_ns (s' := 15) (by decide)]
    by_cases e : i = z
    · rw [e, up_eq, up_eq]; exact ⟨rfl, hx⟩
    · rw [up_nk e, up_nk e]; exact (hP i).1 (by omega)
  · rw [up_ns (by decide), up_ns (by decide)]; exact (hP i).2 hi
theorem kc197 (d z : Nat) (x : Int) (μ : mj_M) (h : μ 14 0 1 = (z : Int)) (hz : z < 160) : kc (d + 1) 197 [v_r 14 0, v_i x] μ = some (none, mj_up (mj_up μ 15 0 z x) 14 0 1 ((z + 1 : Nat) : Int)) := by
  rw [ke197_0, h, if_pos (by omega), if_pos (by omega), Int.toNat_natCast, wi (by omega) (by omega)]
  rfl
theorem wk3 (z : Nat) (h : z < 160) : mj_w ((z : Int) + 1) = ((z + 1 : Nat) : Int) ∧ (0 ≤ (z : Int) ∧ (z : Int) < 160) := by
  refine ⟨?_, by omega⟩
  rw [wi (by omega) (by omega)]; omega
theorem feed_l (d n : Nat) (a b c e f : Int) (hn : n ≤ 5) (ha : rg a 0 255) (hb : rg b 0 255) (hc : rg c 0 255) (he : rg e 0 255) (hf : rg f 0 255) : ∀ (j i k m t tc z : Nat) (μ ρ : mj_M), i + j = n → vAll (mC μ) (mR ρ) k m t tc z → z + j ≤ 160 →
    mw2 (kd (d + 19) 5 4 [some (v_r 0 0), some (v_i (n : Int)), some (v_i a), some (v_i b), some (v_i c), some (v_i e), some (v_i f), some (v_i (i : Int))] [] μ) (kd (d + 19) 83 4 [some (v_r 33 0), some (v_i (n : Int)), some (v_i a), some (v_i b), some (v_i c), some (v_i e), some (v_i f), some (v_i (i : Int))] [] ρ) := by
  intro j
  induction j with
  | zero =>
    intro i k m t tc z μ ρ hi hA hz
    have c1 : μ 14 0 1 = (z : Int) := hA.2.2.1.1.2.1
    have c2 : ρ 33 0 12 = (z : Int) := hA.2.2.1.1.2.2
    have hin : ¬ (i : Int) < (n : Int) := by omega
    rw [ke5_4, ke83_4, if_neg hin, if_neg hin, c1, c2]
    exact mw2_eq rfl ⟨k, m, t, tc, z, hA⟩
  | succ j ih =>
    intro i k m t tc z μ ρ hi hA hz
    have c1 : μ 14 0 1 = (z : Int) := hA.2.2.1.1.2.1
    have c2 : ρ 33 0 12 = (z : Int) := hA.2.2.1.1.2.2
    have hin : (i : Int) < (n : Int) := by omega
    have hz' : z < 160 := by omega
    have hi5 : i = 0 ∨ i = 1 ∨ i = 2 ∨ i = 3 ∨ i = 4 := by omega
    have step : ∀ x, rg x 0 255 → mw2 (mj_rV (kc (d + 19) 197 [v_r 14 0, v_i x] μ) fun m1 => kd (d + 19) 5 4 [some (v_r 0 0), some (v_i (n : Int)), some (v_i a), some (v_i b), some (v_i c), some (v_i e), some (v_i f), some (v_i (mj_w ((i : Int) + 1)))] [] m1) (kd (d + 19) 83 4 [some (v_r 33 0), some (v_i (n : Int)), some (v_i a), some (v_i b), some (v_i c), some (v_i e), some (v_i f), some (v_i (mj_w ((i : Int) + 1)))] [] (mj_up (mj_up ρ 40 0 z x) 33 0 12 (mj_w ((z : Int) + 1)))) := by
      intro x hx
      rw [kc197 (d + 18) z x μ c1 hz', rV_some, (wk2 i (by omega)).1, (wk3 z hz').1]
      exact ih (i + 1) k m t tc (z + 1) _ _ (by omega) (Inv_put hA hz' hx) (by omega)
    have hb0 := (wk3 z hz').2
    rw [ke5_4, ke83_4, if_pos hin, if_pos hin, c2, if_pos hb0, if_pos hb0, if_pos hb0, if_pos hb0, if_pos hb0, Int.toNat_natCast]
    by_cases i0 : (i : Int) = 0
    · rw [if_pos i0, if_pos i0]; exact step a ha
    rw [if_neg i0, if_neg i0]
    by_cases i1 : (i : Int) = 1
    · rw [if_pos i1, if_pos i1]; exact step b hb
    rw [if_neg i1, if_neg i1]
    by_cases i2 : (i : Int) = 2
    · rw [if_pos i2, if_pos i2]; exact step c hc
    rw [if_neg i2, if_neg i2]
    by_cases i3 : (i : Int) = 3
    · rw [if_pos i3, if_pos i3]; exact step e he
    rw [if_neg i3, if_neg i3]; exact step f hf
theorem wk4 (z n : Nat) (h : z ≤ 160) (hn : n ≤ 5) : (mj_w (160 - (z : Int)) < (n : Int) ↔ 160 < z + n) ∧ (160 < mj_w ((z : Int) + (n : Int)) ↔ 160 < z + n) := by
  rw [wi (by omega) (by omega), wi (by omega) (by omega)]
  omega
theorem op_feed (d : Nat) (n a b c e f : Int) {μ ρ : mj_M} (h : Inv μ ρ) : mw2 (kc (d + 20) 5 [v_r 0 0, v_i n, v_i a, v_i b, v_i c, v_i e, v_i f] μ) (kc (d + 20) 83 [v_r 33 0, v_i n, v_i a, v_i b, v_i c, v_i e, v_i f] ρ) := by
  have h0 := h
  obtain ⟨k, m, t, tc, z, hA⟩ := h
  have c1 : μ 14 0 1 = (z : Int) := hA.2.2.1.1.2.1
  have c2 : ρ 33 0 12 = (z : Int) := hA.2.2.1.1.2.2
  have hz : z ≤ 160 := hA.2.2.1.1.1
  rw [ke5_0, ke83_0, kc44, kc72, rI_some, rI_some]
  by_cases qn : 1 ≤ n ∧ n ≤ 5
  · rw [b01_t qn, if_neg n10, if_neg n10, kc46 (d + 17) a, kc82 (d + 17) a, rI_some, rI_some]
    by_cases qa : 0 ≤ a ∧ a ≤ 255
    · rw [b01_t qa, if_neg n10, if_neg n10, kc46 (d + 17) b, kc82 (d + 17) b, rI_some, rI_some]
      by_cases qb : 0 ≤ b ∧ b ≤ 255
      · rw [b01_t qb, if_neg n10, if_neg n10, kc46 (d + 17) c, kc82 (d + 17) c, rI_some, rI_some]
        by_cases qc : 0 ≤ c ∧ c ≤ 255
        · rw [b01_t qc, if_neg n10, if_neg n10, kc46 (d + 17) e, kc82 (d + 17) e, rI_some, rI_some]
          by_cases qe : 0 ≤ e ∧ e ≤ 255
          · rw [b01_t qe, if_neg n10, if_neg n10, kc46 (d + 17) f, kc82 (d + 17) f, rI_some, rI_some]
            by_cases qf : 0 ≤ f ∧ f ≤ 255
            · obtain ⟨j, rfl⟩ : ∃ j : Nat, n = j := ⟨n.toNat, by omega⟩
              have hj : j ≤ 5 := by omega
              obtain ⟨w1, w2⟩ := wk4 z j hz hj
              rw [b01_t qf, if_neg n10, if_neg n10, c1, c2]
              by_cases q : 160 < z + j
              · rw [if_pos (w1.2 q), if_pos (w2.2 q)]; exact mw2_same _ h0
              · rw [if_neg (fun p => q (w1.1 p)), if_neg (fun p => q (w2.1 p))]
                exact feed_l d j a b c e f hj qa qb qc qe qf j 0 k m t tc z μ ρ (Nat.zero_add j) hA (Nat.le_of_not_lt q)
            · rw [b01_f qf, if_pos rfl, if_pos rfl]; exact mw2_same _ h0
          · rw [b01_f qe, if_pos rfl, if_pos rfl]; exact mw2_same _ h0
        · rw [b01_f qc, if_pos rfl, if_pos rfl]; exact mw2_same _ h0
      · rw [b01_f qb, if_pos rfl, if_pos rfl]; exact mw2_same _ h0
    · rw [b01_f qa, if_pos rfl, if_pos rfl]; exact mw2_same _ h0
  · rw [b01_f qn, if_pos rfl, if_pos rfl]; exact mw2_same _ h0
