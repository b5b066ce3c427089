/-! after the constructors: all is alike -/
theorem Inv_first (d : Nat) {μ ρ : mj_M} (hH : vHall μ ρ 0 0) (hM : μ 0 0 2 = 0 ∧ ρ 33 0 17 = 0) (hS : vSheets μ ρ) (ht : μ 1 0 9 = 0 ∧ ρ 33 0 16 = 0) (c5 : μ 0 0 5 = 0) (r15 : ρ 33 0 15 = 0) (cz : μ 14 0 1 = 54) (rz : ρ 33 0 12 = 54) (hT : ∀ i, i < 54 → μ 15 0 i = Tl i) (hT' : ∀ i, i < 54 → ρ 40 0 i = Tl i) (hW : ∀ i, i < 96 → ρ 49 0 i = Wr i) :
    mw2 (kc (d + 60) 6 [v_r 0 0] μ) (kc (d + 60) 94 [v_r 33 0] ρ) := by
  obtain ⟨μ1, ρ1, e1, e2, f1, f2, ⟨z1, z2⟩, ⟨t1, t2⟩, gg, e, ⟨k1, k2⟩, ⟨k3, k4⟩, k5⟩ := text_first d c5 r15 cz rz hT hT' hW
  obtain ⟨⟨a1, a2, a3, a4, a5, a6⟩, ⟨⟨b1, b1'⟩, ⟨b2, b2'⟩, ⟨b3, b3'⟩⟩, ⟨c1, c2, c3, c4⟩, -, -⟩ := hH
  refine ⟨0, μ1, ρ1, e1, e2, 0, 0, 0, 1, 0, ⟨⟨a1, a2, ?_, ?_, ?_, ?_⟩, ⟨⟨?_, ?_⟩, ⟨?_, ?_⟩, ⟨?_, ?_⟩⟩, ⟨?_, ?_, ?_, ?_⟩, fun c hc => absurd hc (Nat.not_lt_zero c), fun a ha => absurd ha (Nat.not_lt_zero a)⟩, ⟨⟨by decide, by decide, ?_, ?_, t1, t2⟩, fun j hj => ?_⟩, ⟨⟨by decide, z1, z2⟩, fun i => ⟨fun hi => absurd hi (Nat.not_lt_zero i), fun hi => ?_⟩⟩, Or.inl ⟨?_, ?_⟩, fun s hs => ⟨?_, ?_, fun i hi => ?_⟩⟩
  · exact (f1 1 0 0 rfl).trans a3
  · exact (f2 33 0 0 rfl).trans a4
  · exact (f1 1 0 4 rfl).trans a5
  · exact (f2 33 0 5 rfl).trans a6
  · show ρ1 33 0 2 = μ1 1 0 6
    rw [f1 1 0 6 rfl, f2 33 0 2 rfl]; exact b1
  · show rg (μ1 1 0 6) 0 3
    rw [f1 1 0 6 rfl]; exact b1'
  · show ρ1 33 0 3 = μ1 1 0 7
    rw [f1 1 0 7 rfl, f2 33 0 3 rfl]; exact b2
  · show rg (μ1 1 0 7) 1 9
    rw [f1 1 0 7 rfl]; exact b2'
  · show ρ1 33 0 4 = μ1 1 0 8
    rw [f1 1 0 8 rfl, f2 33 0 4 rfl]; exact b3
  · show rg (μ1 1 0 8) 0 120
    rw [f1 1 0 8 rfl]; exact b3'
  · exact (f1 1 0 10 rfl).trans c1
  · exact (f1 1 0 11 rfl).trans c2
  · exact (f2 33 0 41 rfl).trans c3
  · exact (f2 33 0 50 rfl).trans c4
  · exact (f1 1 0 9 rfl).trans ht.1
  · exact (f2 33 0 16 rfl).trans ht.2
  · have hj0 : j = 0 := Nat.lt_one_iff.mp hj
    rw [hj0]
    exact ⟨gg, e, ⟨k1, k2⟩, ⟨k3, k4⟩, k5⟩
  · exact (f2 49 0 i rfl).trans (hW i hi)
  · exact (f1 0 0 2 rfl).trans hM.1
  · exact (f2 33 0 17 rfl).trans hM.2
  · show ρ1 45 0 s = μ1 19 s 0 ∧ rg (μ1 19 s 0) (-1) 2
    rw [f1 19 s 0 rfl, f2 45 0 s rfl]; exact (hS s hs).1
  · show ρ1 46 0 s = μ1 19 s 1 ∧ rg (μ1 19 s 1) 0 40
    rw [f1 19 s 1 rfl, f2 46 0 s rfl]; exact (hS s hs).2.1
  · show ρ1 47 0 (40 * s + i) = μ1 20 s i ∧ mj_n32 (μ1 20 s i)
    rw [f1 20 s i rfl, f2 47 0 _ rfl]; exact (hS s hs).2.2 i hi
