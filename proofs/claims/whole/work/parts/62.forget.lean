/-! forget -/
theorem up_same {μ : mj_M} {s i k : Nat} {x : Int} (h : μ s i k = x) : mj_up μ s i k x = μ := by
  funext s' i' k'
  rw [up_ap]
  by_cases e : s' = s ∧ k' = k ∧ i' = i
  · rw [if_pos e, e.1, e.2.1, e.2.2, h]
  · rw [if_neg e]
theorem wk1 (k : Nat) (h : k ≤ 100) : mj_w (((k + 1 : Nat) : Int) - 1) = (k : Int) := by
  rw [wi (by omega) (by omega)]; omega
def pF : Nat → Nat → Nat → Bool := fun s i j => (s == 1 && (i == 0 && j == 4)) || (s == 0 && j == 2)
def qF : Nat → Nat → Nat → Bool := fun s _ j => s == 33 && (j == 5 || j == 17)
theorem Inv_forget {μ ρ μ' ρ' : mj_M} {n k t tc z : Nat} (h : vAll (mC μ) (mR ρ) n (k + 1) t tc z) (f : fr pF μ μ') (f' : fr qF ρ ρ') (e1 : μ' 1 0 4 = (k : Int)) (e2 : ρ' 33 0 5 = (k : Int)) (hi : vImg (mC μ') (mR ρ') k tc) : Inv μ' ρ' := by
  obtain ⟨⟨⟨a1, a2, a3, a4, a5, a6⟩, ⟨⟨b1, b1'⟩, ⟨b2, b2'⟩, ⟨b3, b3'⟩⟩, ⟨c1, c2, c3, c4⟩, hcs, has⟩, hT, hP, -, hS⟩ := h
  have g := mC_frm f
  have g' := mR_frm f'
  refine ⟨n, k, t, tc, z, ⟨⟨a1, Nat.le_of_succ_le a2, ?_, ?_, e1, e2⟩, ⟨⟨?_, ?_⟩, ⟨?_, ?_⟩, ⟨?_, ?_⟩⟩, ⟨?_, ?_, ?_, ?_⟩, fun c hc => ?_, fun a ha => ?_⟩, vText_cg hT (fr_no g (fun s i k q => by simp [pF] at q; simp [nT]; omega)) (fr_no g' (fun s i k q => by simp [qF] at q; simp [nT']; omega)), vTape_cg hP (fr_no g (fun s i k q => by simp [pF] at q; simp [nP]; omega)) (fr_no g' (fun s i k q => by simp [qF] at q; simp [nP']; omega)), hi, vSheets_cg hS (fr_no g (fun s i k q => by simp [pF] at q; simp [nS]; omega)) (fr_no g' (fun s i k q => by simp [qF] at q; simp [nS']; omega))⟩
  · rw [g 1 0 0 rfl]; exact a3
  · rw [g' 33 0 0 rfl]; exact a4
  · rw [g 1 0 6 rfl, g' 33 0 2 rfl]; exact b1
  · rw [g 1 0 6 rfl]; exact b1'
  · rw [g 1 0 7 rfl, g' 33 0 3 rfl]; exact b2
  · rw [g 1 0 7 rfl]; exact b2'
  · rw [g 1 0 8 rfl, g' 33 0 4 rfl]; exact b3
  · rw [g 1 0 8 rfl]; exact b3'
  · rw [g 1 0 10 rfl]; exact c1
  · rw [g 1 0 11 rfl]; exact c2
  · rw [g' 33 0 41 rfl]; exact c3
  · rw [g' 33 0 50 rfl]; exact c4
  · rw [g 2 0 c rfl, g 3 0 c rfl, g 4 0 c rfl, g' 34 0 _ rfl, g' 34 0 _ rfl, g' 34 0 _ rfl]; exact hcs c hc
  · rw [g 7 a 0 rfl, g 7 a 1 rfl, g 7 a 2 rfl, g 7 a 3 rfl, g 5 0 a rfl, g' 35 0 a rfl, g' 36 0 a rfl, g' 37 0 a rfl, g' 38 0 a rfl, g' 39 0 a rfl]; exact has a (Nat.lt_succ_of_lt ha)
theorem op_forget (d : Nat) {μ ρ : mj_M} (h : Inv μ ρ) : mw2 (kc (d + 20) 10 [v_r 0 0] μ) (kc (d + 20) 102 [v_r 33 0] ρ) := by
  have h0 := h
  obtain ⟨n, m, t, tc, z, hA⟩ := h
  have hA0 := hA
  obtain ⟨⟨⟨-, a2, -, -, a5, a6⟩, -⟩, -, -, hM, -⟩ := hA
  have cm : μ 1 0 4 = (m : Int) := a5
  have rm : ρ 33 0 5 = (m : Int) := a6
  rw [ke10_0, ke102_0, cm, rm]
  match m, a2, hA0, hM, cm, rm with
  | 0, _, _, _, _, _ => rw [if_neg (by decide), if_pos (show ((0 : Nat) : Int) = 0 from rfl)]; exact mw2_same _ h0
  | k + 1, a2, hA0, hM, cm, rm =>
    rw [wk1 k (by omega), if_pos (show (0 : Int) < ((k + 1 : Nat) : Int) by omega), if_neg (show ¬ ((k + 1 : Nat) : Int) = 0 by omega)]
    rcases hM with ⟨m1, m2⟩ | ⟨m1, m2, n', m', t', ⟨p1, p2, p3, p4, p5, p6, p7, p8, p9⟩, p⟩
    · have m1' : μ 0 0 2 = 0 := m1
      have m2' : ρ 33 0 17 = 0 := m2
      rw [m2', if_pos rfl]
      by_cases q : (k : Int) < μ 1 1 4
      · rw [if_pos q]
        exact ⟨_, _, _, rfl, rfl, Inv_forget hA0 (fr_tr (fr_up rfl) (fr_up rfl)) (fr_tr (fr_up rfl) (fr_up rfl)) (by rw [up_ns (by decide), up_eq]) (by rw [up_nk (by decide), up_eq]) (Or.inl ⟨by rw [mC_up rfl, up_eq], by rw [mR_up rfl, up_eq]⟩)⟩
      · rw [if_neg q]
        exact ⟨_, _, _, rfl, rfl, Inv_forget hA0 (fr_up rfl) (fr_tr (fr_up rfl) (fr_up rfl)) (by rw [up_eq]) (by rw [up_nk (by decide), up_eq]) (Or.inl ⟨by rw [mC_up rfl, up_ns (by decide)]; exact m1, by rw [mR_up rfl, up_eq]⟩)⟩
    · have m1' : μ 0 0 2 = 1 := m1
      have m2' : ρ 33 0 17 = 1 := m2
      have p6' : μ 1 1 4 = (m' : Int) := p6
      have p7' : ρ 33 0 22 = (m' : Int) := p7
      rw [m2', if_neg n10, p6', p7']
      by_cases q : (k : Int) < (m' : Int)
      · rw [if_pos q, if_pos q]
        exact ⟨_, _, _, rfl, rfl, Inv_forget hA0 (fr_tr (fr_up rfl) (fr_up rfl)) (fr_tr (fr_up rfl) (fr_up rfl)) (by rw [up_ns (by decide), up_eq]) (by rw [up_nk (by decide), up_eq]) (Or.inl ⟨by rw [mC_up rfl, up_eq], by rw [mR_up rfl, up_eq]⟩)⟩
      · rw [if_neg q, if_neg q, up_same (show mj_up ρ 33 0 5 (k : Int) 33 0 17 = 1 by rw [up_nk (by decide)]; exact m2')]
        refine ⟨_, _, _, rfl, rfl, Inv_forget hA0 (fr_up rfl) (fr_up rfl) (by rw [up_eq]) (by rw [up_eq]) ?_⟩
        rw [mC_up rfl, mR_up rfl]
        exact vImg_cg (Or.inr ⟨m1, m2, n', m', t', ⟨p1, by omega, p3, p4, p5, p6, p7, p8, p9⟩, p⟩) (fr_up rfl) (fr_up rfl)
