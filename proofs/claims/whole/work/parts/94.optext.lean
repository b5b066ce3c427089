/-! text -/
def pX (tc : Nat) : Nat → Nat → Nat → Bool := fun s i k => (s == 14 && (k == 1 || (k == 4 || (k == 5 || (k == 6 || (k == 7 || k == 8)))))) || (s == 16 || (s == 17 || ((s == 10 && i == tc) || ((s == 11 && i == tc) || (s == 0 && k == 5)))))
theorem vImg_tc {μ ρ : mj_M} {m tc tc' : Nat} (h : vImg μ ρ m tc) (ht : tc ≤ tc') : vImg μ ρ m tc' := by
  rcases h with h | ⟨h1, h2, n', m', t', ⟨p1, p2, p3, p4⟩, h3⟩
  · exact Or.inl h
  · exact Or.inr ⟨h1, h2, n', m', t', ⟨p1, p2, Nat.lt_of_lt_of_le p3 ht, p4⟩, h3⟩
theorem Inv_text {μ ρ μ' ρ' : mj_M} {n m t tc z tc' : Nat} (h : vAll (mC μ) (mR ρ) n m t tc z) (f : fr (pX tc) μ μ') (f' : fr (fR2 tc) ρ ρ') (hz : μ' 14 0 1 = 0 ∧ ρ' 33 0 12 = 0) (hc : μ' 0 0 5 = (tc' : Int) ∧ ρ' 33 0 15 = (tc' : Int)) (htc : tc ≤ tc' ∧ tc' ≤ 6) (H : ∀ j, tc ≤ j → j < tc' → ∃ g e, txtC μ' j g e ∧ txtR ρ' j g e ∧ pTxt g e) : Inv μ' ρ' := by
  obtain ⟨⟨⟨a1, a2, a3, a4, a5, a6⟩, ⟨⟨b1, b1'⟩, ⟨b2, b2'⟩, ⟨b3, b3'⟩⟩, ⟨c1, c2, c3, c4⟩, hcs, has⟩, ⟨⟨t1, t2, t3, t4, t5, t6⟩, hT⟩, ⟨-, hP⟩, hM, hS⟩ := h
  have g := mC_frm f
  have g' := mR_frm f'
  refine ⟨n, m, t, tc', 0, ⟨⟨a1, a2, ?_, ?_, ?_, ?_⟩, ⟨⟨?_, ?_⟩, ⟨?_, ?_⟩, ⟨?_, ?_⟩⟩, ⟨?_, ?_, ?_, ?_⟩, fun c hc => ?_, fun a ha => ?_⟩, ⟨⟨Nat.lt_of_lt_of_le t1 htc.1, htc.2, ?_, ?_, hc.1, hc.2⟩, fun j hj => ?_⟩, ⟨⟨by decide, hz.1, hz.2⟩, fun i => ⟨fun hi => absurd hi (Nat.not_lt_zero i), fun hi => ?_⟩⟩, vImg_tc (vImg_cg hM (fr_no g (fun s i k q => by simp [pX] at q; simp [nM]; omega)) (fr_no g' (fun s i k q => by simp [fR2, fQ] at q; simp [nM']; omega))) htc.1, vSheets_cg hS (fr_no g (fun s i k q => by simp [pX] at q; simp [nS]; omega)) (fr_no g' (fun s i k q => by simp [fR2, fQ] at q; simp [nS']; omega))⟩
  · rw [g 1 0 0 rfl]; exact a3
  · rw [g' 33 0 0 rfl]; exact a4
  · rw [g 1 0 4 rfl]; exact a5
  · rw [g' 33 0 5 rfl]; exact a6
  · rw [g 1 0 6 rfl, g' 33 0 2 rfl]; exact b1
  · rw [g 1 0 6 rfl]; exact b1'
  · rw [g 1 0 7 rfl, g' 33 0 3 rfl]; exact b2
  · rw [g 1 0 7 rfl]; exact b2'
  · rw [g 1 0 8 rfl, g' 33 0 4 rfl]; exact b3
  · rw [g 1 0 8 rfl]; exact b3'
  · rw [g 1 0 10 rfl]; exact c1
  · rw [g 1 0 11 rfl]; exact c2
  · rw [g' 33 0 41 rfl]; exact c3
  · rw [g' 33 0 50 rfl]; exact c4
  · rw [g 2 0 c rfl, g 3 0 c rfl, g 4 0 c rfl, g' 34 0 _ rfl, g' 34 0 _ rfl, g' 34 0 _ rfl]; exact hcs c hc
  · rw [g 7 a 0 rfl, g 7 a 1 rfl, g 7 a 2 rfl, g 7 a 3 rfl, g 5 0 a rfl, g' 35 0 a rfl, g' 36 0 a rfl, g' 37 0 a rfl, g' 38 0 a rfl, g' 39 0 a rfl]; exact has a ha
  · rw [g 1 0 9 rfl]; exact t3
  · rw [g' 33 0 16 rfl]; exact t4
  · by_cases q : tc ≤ j
    · obtain ⟨gg, e, ⟨k1, k2⟩, ⟨k3, k4⟩, k5⟩ := H j q hj
      exact ⟨gg, e, ⟨k1, k2⟩, ⟨k3, k4⟩, k5⟩
    · obtain ⟨gg, e, ⟨k1, k2⟩, ⟨k3, k4⟩, k5⟩ := hT j (by omega)
      have he3 : e 3 ≤ 160 := k5.2.2.2.2.1
      have hjt : j < tc := by omega
      refine ⟨gg, e, ⟨fun p hp => ?_, fun i hi => ?_⟩, ⟨fun p hp => ?_, fun i hi => ?_⟩, k5⟩
      · rw [g 11 j p (by simp [pX]; omega)]; exact k1 p hp
      · rw [g 10 j i (by simp [pX]; omega)]; exact k2 i hi
      · rw [g' 42 0 _ (by simp [fR2, fQ]; omega)]; exact k3 p hp
      · rw [g' 41 0 _ (by simp [fR2, fQ]; omega)]; exact k4 i hi
  · rw [g' 49 0 i rfl]; exact (hP i).2 hi
def pCp (t : Nat) : Nat → Nat → Nat → Bool := fun s i _ => (s == 10 && i == t) || (s == 11 && i == t)
theorem kd214b (d t : Nat) (μ0 : mj_M) : ∀ j a (μ : mj_M), a + j = 3 → (∀ p, p < a → μ 11 t p = μ0 17 0 p) → (∀ i, i < 160 → μ 10 t i = μ0 16 0 i) → fr (pCp t) μ0 μ → mwV (kd d 214 3 [some (v_r 9 t), some (v_r 14 0), some (v_i (a : Int))] [] μ) (fun μ' => (∀ p, p < 3 → μ' 11 t p = μ0 17 0 p) ∧ (∀ i, i < 160 → μ' 10 t i = μ0 16 0 i) ∧ fr (pCp t) μ0 μ') := by
  intro j
  induction j with
  | zero =>
    intro a μ ha h1 h2 f
    rw [ke214_3, if_pos (by omega)]
    exact mwV_ret ⟨fun p hp => h1 p (by omega), h2, f⟩
  | succ j ih =>
    intro a μ ha h1 h2 f
    have hb : 0 ≤ (a : Int) ∧ (a : Int) < 3 := by omega
    rw [ke214_3, if_neg (by omega), if_pos hb, if_pos hb, Int.toNat_natCast, wk a (m := 3) (by omega) (by decide)]
    refine ih (a + 1) _ (by omega) (fun p hp => ?_) (fun i hi => ?_) (fr_tr f (fr_up (by simp [pCp])))
    · by_cases e : p = a
      · rw [e, up_eq]; exact f 17 0 a rfl
      · rw [up_nk e]; exact h1 p (by omega)
    · rw [up_ns (by decide)]; exact h2 i hi
theorem kd214 (d t : Nat) (μ0 : mj_M) : ∀ j a (μ : mj_M), a + j = 160 → (∀ i, i < a → μ 10 t i = μ0 16 0 i) → fr (pCp t) μ0 μ → mwV (kd d 214 1 [some (v_r 9 t), some (v_r 14 0), some (v_i (a : Int))] [] μ) (fun μ' => (∀ p, p < 3 → μ' 11 t p = μ0 17 0 p) ∧ (∀ i, i < 160 → μ' 10 t i = μ0 16 0 i) ∧ fr (pCp t) μ0 μ') := by
  intro j
  induction j with
  | zero =>
    intro a μ ha h1 f
    rw [ke214_1, if_neg (by omega)]
    exact kd214b d t μ0 3 0 μ rfl (fun p hp => absurd hp (Nat.not_lt_zero p)) (fun i hi => h1 i (by omega)) f
  | succ j ih =>
    intro a μ ha h1 f
    have hb : 0 ≤ (a : Int) ∧ (a : Int) < 160 := by omega
    rw [ke214_1, if_pos hb.2, if_pos hb, if_pos hb, Int.toNat_natCast, wk a (m := 160) (by omega) (by decide)]
    refine ih (a + 1) _ (by omega) (fun i hi => ?_) (fr_tr f (fr_up (by simp [pCp])))
    by_cases e : i = a
    · rw [e, up_eq]; exact f 16 0 a rfl
    · rw [up_nk e]; exact h1 i (by omega)
