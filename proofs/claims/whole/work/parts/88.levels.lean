/-! TERM, SUM, AND, E: loops of the class -/
theorem loop205 (o : Nat) : isLoop 206 o (fun c => c = 42) (fun d x i μ r => r = kd d 205 1 [some (v_r 14 0), some (v_i (o : Int)), some (v_i x), some (v_i (i : Int))] [] μ) := by
  refine ⟨fun d i μ r hr hi hop => ?_, fun d i μ r hr hop => ?_, fun d i μ r hr => ?_⟩
  · have hop' : μ 14 0 7 = 42 := hop
    rw [hr, ke205_1, if_pos (show (i : Int) < 160 from Int.ofNat_lt.mpr hi), if_neg n10, if_pos hop', hop', show unc (sgn 42) = -43 by decide, wk i hi (by decide)]
    exact ⟨fun x m => kd d 205 1 [some (v_r 14 0), some (v_i (o : Int)), some (v_i x), some (v_i ((i + 1 : Nat) : Int))] [] m, rfl, fun _ _ => rfl⟩
  · have hop' : ¬ μ 14 0 7 = 42 := hop
    rw [hr, ke205_1, if_neg n10, if_neg hop', if_pos (Or.inr rfl)]
    split <;> rfl
  · rw [hr, ke205_1, if_pos rfl, if_pos (Or.inl rfl)]
    split <;> rfl
theorem loop204 (o : Nat) : isLoop 205 o (fun c => c = 43 ∨ c = 45) (fun d x i μ r => ∃ o4, r = kd d 204 1 [some (v_r 14 0), some (v_i (o : Int)), some (v_i x), some (v_i (i : Int)), o4] [] μ) := by
  refine ⟨fun d i μ r hr hi hop => ?_, fun d i μ r hr hop => ?_, fun d i μ r hr => ?_⟩
  · obtain ⟨o4, hr⟩ := hr
    have hu : unc (sgn (μ 14 0 7)) = -(μ 14 0 7) - 1 := by
      rcases hop with e | e <;> rw [e] <;> decide
    have e2 : kd d 204 1 [some (v_r 14 0), some (v_i (o : Int)), some (v_i 1), some (v_i (i : Int)), o4] [] μ = kd d 204 2 [some (v_r 14 0), some (v_i (o : Int)), some (v_i 1), some (v_i (i : Int)), none] [] μ := by
      rw [ke204_1, if_pos (show (i : Int) < 160 from Int.ofNat_lt.mpr hi), if_neg n10]
      rcases hop with e | e
      · rw [if_pos e]
      · rw [if_neg (by rw [e]; decide), if_pos e]
    rw [hr, e2, ke204_2, hu, wk i hi (by decide)]
    exact ⟨fun x m => kd d 204 1 [some (v_r 14 0), some (v_i (o : Int)), some (v_i x), some (v_i ((i + 1 : Nat) : Int)), some (v_i (μ 14 0 7))] [] m, rfl, fun _ _ => ⟨_, rfl⟩⟩
  · obtain ⟨o4, hr⟩ := hr
    rw [hr, ke204_1, if_neg n10, if_neg (fun w => hop (Or.inl w)), if_neg (fun w => hop (Or.inr w)), if_pos (Or.inr rfl)]
    split <;> rfl
  · obtain ⟨o4, hr⟩ := hr
    rw [hr, ke204_1, if_pos rfl, if_pos (Or.inl rfl)]
    split <;> rfl
theorem loop202 (o : Nat) : isLoop 203 o (fun c => c = 4) (fun d x i μ r => r = kd d 202 1 [some (v_r 14 0), some (v_i (o : Int)), some (v_i x), some (v_i (i : Int))] [] μ) := by
  refine ⟨fun d i μ r hr hi hop => ?_, fun d i μ r hr hop => ?_, fun d i μ r hr => ?_⟩
  · have hop' : μ 14 0 7 = 4 := hop
    rw [hr, ke202_1, if_pos (show (i : Int) < 160 from Int.ofNat_lt.mpr hi), if_neg n10, if_pos hop', hop', show unc (sgn 4) = -5 by decide, wk i hi (by decide)]
    exact ⟨fun x m => kd d 202 1 [some (v_r 14 0), some (v_i (o : Int)), some (v_i x), some (v_i ((i + 1 : Nat) : Int))] [] m, rfl, fun _ _ => rfl⟩
  · have hop' : ¬ μ 14 0 7 = 4 := hop
    rw [hr, ke202_1, if_neg n10, if_neg hop', if_pos (Or.inr rfl)]
    split <;> rfl
  · rw [hr, ke202_1, if_pos rfl, if_pos (Or.inl rfl)]
    split <;> rfl
theorem loop201 (o : Nat) : isLoop 202 o (fun c => c = 3) (fun d x i μ r => r = kd d 201 1 [some (v_r 14 0), some (v_i (o : Int)), some (v_i x), some (v_i (i : Int))] [] μ) := by
  refine ⟨fun d i μ r hr hi hop => ?_, fun d i μ r hr hop => ?_, fun d i μ r hr => ?_⟩
  · have hop' : μ 14 0 7 = 3 := hop
    rw [hr, ke201_1, if_pos (show (i : Int) < 160 from Int.ofNat_lt.mpr hi), if_neg n10, if_pos hop', hop', show unc (sgn 3) = -4 by decide, wk i hi (by decide)]
    exact ⟨fun x m => kd d 201 1 [some (v_r 14 0), some (v_i (o : Int)), some (v_i x), some (v_i ((i + 1 : Nat) : Int))] [] m, rfl, fun _ _ => rfl⟩
  · have hop' : ¬ μ 14 0 7 = 3 := hop
    rw [hr, ke201_1, if_neg n10, if_neg hop', if_pos (Or.inr rfl)]
    split <;> rfl
  · rw [hr, ke201_1, if_pos rfl, if_pos (Or.inl rfl)]
    split <;> rfl
theorem op6 : opOK 6 7 (fun c => c = 42) := by
  intro c hc
  have hc' : c = 42 := hc
  rw [hc']; decide
theorem op5 : opOK 5 6 (fun c => c = 43 ∨ c = 45) := by
  intro c hc
  rcases hc with hc | hc <;> rw [hc] <;> decide
theorem op2 : opOK 2 3 (fun c => c = 4) := by
  intro c hc
  have hc' : c = 4 := hc
  rw [hc']; decide
theorem op1 : opOK 1 2 (fun c => c = 3) := by
  intro c hc
  have hc' : c = 3 := hc
  rw [hc']; decide
theorem simTerm {T : Nat → Int} {z tc o p : Nat} (hz : z ≤ 160) (h6 : tc < 6) (h0 : Sub T z tc 7 o p) (IH : ∀ p', p < p' → p' ≤ z → Sub T z tc 7 o p') : Sub T z tc 6 o p :=
  binSim (L := 6) (L' := 7) (y := 205) hz h6 rfl (loop205 o) op6 (by decide) (by decide) rfl rfl (by decide) (fun q h s => ⟨fun _ => h, fun w => absurd w (by decide), fun w => absurd w (by decide), fun w => absurd w (by decide)⟩) (fun d μ => ⟨_, ke205_0 d _ μ, fun _ _ => rfl⟩) h0 IH
theorem simSum {T : Nat → Int} {z tc o p : Nat} (hz : z ≤ 160) (h6 : tc < 6) (h0 : Sub T z tc 6 o p) (IH : ∀ p', p < p' → p' ≤ z → Sub T z tc 6 o p') : Sub T z tc 5 o p :=
  binSim (L := 5) (L' := 6) (y := 204) hz h6 rfl (loop204 o) op5 (by decide) (by decide) rfl rfl (by decide) (fun q h s => ⟨fun _ => s.1 (by decide), fun _ => ⟨fun w => h (Or.inl w), fun w => h (Or.inr w)⟩, fun w => absurd w (by decide), fun w => absurd w (by decide)⟩) (fun d μ => ⟨_, ke204_0 d _ μ, fun _ _ => ⟨_, rfl⟩⟩) h0 IH
theorem simBoth {T : Nat → Int} {z tc o p : Nat} (hz : z ≤ 160) (h6 : tc < 6) (h0 : Sub T z tc 3 o p) (IH : ∀ p', p < p' → p' ≤ z → Sub T z tc 3 o p') : Sub T z tc 2 o p :=
  binSim (L := 2) (L' := 3) (y := 202) hz h6 rfl (loop202 o) op2 (by decide) (by decide) rfl rfl (by decide) (fun q h s => ⟨fun _ => s.1 (by decide), fun _ => s.2.1 (by decide), fun _ => h, fun w => absurd w (by decide)⟩) (fun d μ => ⟨_, ke202_0 d _ μ, fun _ _ => rfl⟩) h0 IH
theorem simEither {T : Nat → Int} {z tc o p : Nat} (hz : z ≤ 160) (h6 : tc < 6) (h0 : Sub T z tc 2 o p) (IH : ∀ p', p < p' → p' ≤ z → Sub T z tc 2 o p') : Sub T z tc 1 o p :=
  binSim (L := 1) (L' := 2) (y := 201) hz h6 rfl (loop201 o) op1 (by decide) (by decide) rfl rfl (by decide) (fun q h s => ⟨fun _ => s.1 (by decide), fun _ => s.2.1 (by decide), fun _ => s.2.2.1 (by decide), fun _ => h⟩) (fun d μ => ⟨_, ke201_0 d _ μ, fun _ _ => rfl⟩) h0 IH
/-- a ONE is a way to read, with no - waiting -/
def One (T : Nat → Int) (z tc o p : Nat) : Prop := ∃ res : Res, dCl T z 206 o p (dep 7 o) res ∧ vRs T z 7 o p res ∧ dR1 T z tc o p res
theorem One_sub {T : Nat → Int} {z tc o p : Nat} (ho : o ≤ 5) (h : One T z tc o p) : Sub T z tc 7 o p := by
  obtain ⟨res, h1, h2, h3⟩ := h
  refine ⟨res, h1, h2, fun d H W ρ mn o3 Q hlen hm ht hq hgo => h3 d [] H W o ρ mn o3 Q rfl (fun c hc => absurd hc List.not_mem_nil) hlen hm ht hq ?_⟩
  cases res with
  | inl f => exact hgo
  | inr v => exact fun ρ' mn' o3' hq' hl' f' => hgo [] v.2 ρ' mn' o3' rfl (fun c hc => absurd hc List.not_mem_nil) (fun w => absurd w (by decide)) ho hq' hl' f'
