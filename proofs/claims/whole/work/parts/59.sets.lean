/-! what changes the hall alone -/
def hC : Nat → Nat → Nat → Bool := fun s i k => (s == 1 && (i == 0 && !(k == 9))) || ([2, 3, 4, 5].contains s && i == 0) || s == 7
def hR : Nat → Nat → Nat → Bool := fun s _ k => (s == 33 && [0, 2, 3, 4, 5].contains k) || [34, 35, 36, 37, 38, 39].contains s
theorem mC_frm {P : Nat → Nat → Nat → Bool} {μ μ' : mj_M} (h : fr P μ μ') : fr P (mC μ) (mC μ') := by
  intro s i k q
  unfold mC
  split
  · rfl
  · exact h s i k q
theorem mR_frm {P : Nat → Nat → Nat → Bool} {μ μ' : mj_M} (h : fr P μ μ') : fr P (mR μ) (mR μ') := by
  intro s i k q
  unfold mR
  split
  · rfl
  · exact h s i k q
theorem vImg_mono {μ ρ : mj_M} {m m' tc : Nat} (h : vImg μ ρ m tc) (hm : m ≤ m') : vImg μ ρ m' tc := by
  rcases h with h | ⟨h1, h2, n', k, t', ⟨p1, p2, p3⟩, p4⟩
  · exact Or.inl h
  · exact Or.inr ⟨h1, h2, n', k, t', ⟨p1, Nat.le_trans p2 hm, p3⟩, p4⟩
theorem hC_n {s i k : Nat} (h : hC s i k = true) : (s = 1 ∧ i = 0 ∧ k ≠ 9) ∨ ((s = 2 ∨ s = 3 ∨ s = 4 ∨ s = 5) ∧ i = 0) ∨ s = 7 := by
  simp [hC] at h
  omega
theorem hR_n {s i k : Nat} (h : hR s i k = true) : (s = 33 ∧ (k = 0 ∨ k = 2 ∨ k = 3 ∨ k = 4 ∨ k = 5)) ∨ (34 ≤ s ∧ s ≤ 39) := by
  simp [hR] at h
  omega
theorem fr_no {P P' : Nat → Nat → Nat → Bool} {μ μ' : mj_M} (h : fr P μ μ') (hp : ∀ s i k, P s i k = true → P' s i k = true) : fr P' μ μ' := fr_mono h (fun s i k q => by
  cases c : P s i k with
  | false => rfl
  | true => rw [hp s i k c] at q; cases q)
theorem hC_T (s i k : Nat) (h : hC s i k = true) : nT s i k = true := by
  have := hC_n h
  simp [nT]; omega
theorem hC_P (s i k : Nat) (h : hC s i k = true) : nP s i k = true := by
  have := hC_n h
  simp [nP]; omega
theorem hC_M (s i k : Nat) (h : hC s i k = true) : nM s i k = true := by
  have := hC_n h
  simp [nM]; omega
theorem hC_S (s i k : Nat) (h : hC s i k = true) : nS s i k = true := by
  have := hC_n h
  simp [nS]; omega
theorem hR_T (s i k : Nat) (h : hR s i k = true) : nT' s i k = true := by
  have := hR_n h
  simp [nT']; omega
theorem hR_P (s i k : Nat) (h : hR s i k = true) : nP' s i k = true := by
  have := hR_n h
  simp [nP']; omega
theorem hR_M (s i k : Nat) (h : hR s i k = true) : nM' s i k = true := by
  have := hR_n h
  simp [nM']; omega
theorem hR_S (s i k : Nat) (h : hR s i k = true) : nS' s i k = true := by
  have := hR_n h
  simp [nS']; omega
theorem Inv_hall {μ ρ μ' ρ' : mj_M} {n m t tc z n' m' : Nat} (h : vAll (mC μ) (mR ρ) n m t tc z) (f : fr hC μ μ') (f' : fr hR ρ ρ') (H : vHall (mC μ') (mR ρ') n' m') (hm : m ≤ m') : Inv μ' ρ' := by
  obtain ⟨-, hT, hP, hM, hS⟩ := h
  have g := mC_frm f
  have g' := mR_frm f'
  exact ⟨n', m', t, tc, z, H, vText_cg hT (fr_no g hC_T) (fr_no g' hR_T), vTape_cg hP (fr_no g hC_P) (fr_no g' hR_P), vImg_mono (vImg_cg hM (fr_no g hC_M) (fr_no g' hR_M)) hm, vSheets_cg hS (fr_no g hC_S) (fr_no g' hR_S)⟩
