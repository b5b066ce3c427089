/-! feed -/
def pT : Nat → Nat → Nat → Bool := fun s _ k => s == 15 || (s == 14 && k == 1)
def qT : Nat → Nat → Nat → Bool := fun s _ k => s == 40 || (s == 33 && k == 12)
theorem Inv_tape {μ ρ μ' ρ' : mj_M} {n m t tc z z' : Nat} (h : vAll (mC μ) (mR ρ) n m t tc z) (f : fr pT μ μ') (f' : fr qT ρ ρ') (H : vTape (mC μ') (mR ρ') z') : vAll (mC μ') (mR ρ') n m t tc z' := by
  obtain ⟨⟨⟨a1, a2, a3, a4, a5, a6⟩, ⟨⟨b1, b1'⟩, ⟨b2, b2'⟩, ⟨b3, b3'⟩⟩, ⟨c1, c2, c3, c4⟩, hcs, has⟩, hT, -, hM, hS⟩ := h
  have g := mC_frm f
  have g' := mR_frm f'
  refine ⟨⟨⟨a1, a2, ?_, ?_, ?_, ?_⟩, ⟨⟨?_, ?_⟩, ⟨?_, ?_⟩, ⟨?_, ?_⟩⟩, ⟨?_, ?_, ?_, ?_⟩, fun c hc => ?_, fun a ha => ?_⟩, vText_cg hT (fr_no g (fun s i k q => by simp [pT] at q; simp [nT]; omega)) (fr_no g' (fun s i k q => by simp [qT] at q; simp [nT']; omega)), H, vImg_cg hM (fr_no g (fun s i k q => by simp [pT] at q; simp [nM]; omega)) (fr_no g' (fun s i k q => by simp [qT] at q; simp [nM']; omega)), vSheets_cg hS (fr_no g (fun s i k q => by simp [pT] at q; simp [nS]; omega)) (fr_no g' (fun s i k q => by simp [qT] at q; simp [nS']; omega))⟩
  · rw [g 1 0 0 rfl]; exact a3
  · rw [g' 33 0 0 rfl]; exact a4
  · rw [g 1 0 4 rfl]; exact a5
  · rw [g' 33 0 5 rfl]; exact a6
  · rw [g 1 0 6 rfl, g' 33 0 2 rfl]; exact b1
  · rw [g 1 0 6 rfl]; exact b1'
  · rw [g 1 0 7 rfl, g' 33 0 3 rfl]; exact b2
  · rw [g 1 0 7 rfl]; exact b2'
  · rw [g 1 0 8 rfl, g' 33 0 4 rfl]; exact b3
  · rw [g 1 0 8 rfl]; exact b3'
  · rw [g 1 0 10 rfl]; exact c1
  · rw [g 1 0 11 rfl]; exact c2
  · rw [g' 33 0 41 rfl]; exact c3
  · rw [g' 33 0 50 rfl]; exact c4
  · rw [g 2 0 c rfl, g 3 0 c rfl, g 4 0 c rfl, g' 34 0 _ rfl, g' 34 0 _ rfl, g' 34 0 _ rfl]; exact hcs c hc
  · rw [g 7 a 0 rfl, g 7 a 1 rfl, g 7 a 2 rfl, g 7 a 3 rfl, g 5 0 a rfl, g' 35 0 a rfl, g' 36 0 a rfl, g' 37 0 a rfl, g' 38 0 a rfl, g' 39 0 a rfl]; exact has a ha
theorem Inv_put {μ ρ : mj_M} {n m t tc z : Nat} {x : Int} (h : vAll (mC μ) (mR ρ) n m t tc z) (hz : z < 160) (hx : rg x 0 255) : vAll (mC (mj_up (mj_up μ 15 0 z x) 14 0 1 ((z + 1 : Nat) : Int))) (mR (mj_up (mj_up ρ 40 0 z x) 33 0 12 ((z + 1 : Nat) : Int))) n m t tc (z + 1) := by
  have h0 := h
  obtain ⟨-, -, ⟨-, hP⟩, -⟩ := h
  refine Inv_tape h0 (fr_tr (fr_up rfl) (fr_up rfl)) (fr_tr (fr_up rfl) (fr_up rfl)) ?_
  rw [mC_up rfl, mC_up rfl, mR_up rfl, mR_up rfl]
  refine ⟨⟨by omega, up_eq _ _ _ _ _, up_eq _ _ _ _ _⟩, fun i hi => ?_⟩
  rw [up_ns (s' := 40) (by decide), up_ns (s' := 15) (by decide)]
  by_cases e : i = z
  · rw [e, up_eq, up_eq]; exact ⟨rfl, hx⟩
  · rw [up_nk e, up_nk e]; exact hP i (by omega)
