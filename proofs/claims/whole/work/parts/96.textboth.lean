/-! text() from any state whose tapes, words and numbers of texts are alike (for the constructors: no text is there yet) -/
theorem text_both (d : Nat) {μ ρ : mj_M} {z tc : Nat} (z1 : z ≤ 160) (h6 : tc < 6) (c5 : μ 0 0 5 = (tc : Int)) (r15 : ρ 33 0 15 = (tc : Int)) (cz : μ 14 0 1 = (z : Int)) (rz : ρ 33 0 12 = (z : Int)) (hT : ∀ i, i < z → ρ 40 0 i = μ 15 0 i) (hW : ∀ i, i < 96 → ρ 49 0 i = Wr i) :
    ∃ (x : Int) (μ1 ρ1 : mj_M) (tc' : Nat), kc (d + 60) 6 [v_r 0 0] μ = some (some (v_i x), μ1) ∧ kc (d + 60) 94 [v_r 33 0] ρ = some (some (v_i x), ρ1) ∧ fr (pX tc) μ μ1 ∧ fr (fR2 tc) ρ ρ1 ∧ (μ1 14 0 1 = 0 ∧ ρ1 33 0 12 = 0) ∧ (μ1 0 0 5 = (tc' : Int) ∧ ρ1 33 0 15 = (tc' : Int)) ∧ ((tc' = tc ∧ ∃ f : Nat, x = mj_w (-100 - (f : Int))) ∨ (tc' = tc + 1 ∧ x = (tc : Int))) ∧ (∀ j, tc ≤ j → j < tc' → ∃ g e, txtC μ1 j g e ∧ txtR ρ1 j g e ∧ pTxt g e) := by
  have hq6 : ¬ (tc : Int) = 6 := by omega
  have hwtc := wtc tc h6
  have hE0 : tOK [] (fun _ => 0) 0 := ⟨rfl, rfl, fun p hp => absurd hp (Nat.not_lt_zero p)⟩
  obtain ⟨out, o1, o2, o3⟩ := textSim (T := μ 15 0) (z := z) (tc := tc) z1 h6 3 0 0 [] (fun _ => 0) rfl (Nat.zero_le z) (Nat.le_refl 0) hE0
  have hC : mwI (kc (d + 59) 198 [v_r 14 0] μ) (fun x μ' => oC x μ' out ∧ fr fC7 μ μ') := by
    rw [ke198_0]
    refine mwI_rV (mwV_mono (kc208 (d + 54) z 0 (μ 15 0) z1 (Nat.zero_le z) _ ?_ (up_eq _ _ _ _ _) (fun i => ?_)) (fun μ1 g => ?_))
    · rw [up_nk (by decide), up_nk (by decide)]; exact cz
    · rw [up_ns (by decide), up_ns (by decide)]
    · have f1 : fr fP μ μ1 := fr_tr (fr_up rfl) (fr_tr (fr_up rfl) (fL_fP g.2))
      refine mwI_mono (o2 (d + 58) μ1 (Nat.le_trans (by decide) (Nat.le_add_left 58 d)) ⟨g.1, ⟨(f1 14 0 1 rfl).trans cz, fun i _ => f1 15 0 i rfl⟩, ?_, trivial⟩ (fun i hi => absurd hi (Nat.not_lt_zero i))) (fun x μ2 k => ⟨k.1, fr_tr (fP_7 f1) k.2⟩)
      rw [g.2 14 0 4 rfl, up_nk (by decide), up_eq]; rfl
  have hR : mwI (kc (d + 60) 94 [v_r 33 0] ρ) (fun x ρ' => oR tc x ρ' out ∧ fr (fR2 tc) ρ ρ') := by
    rw [ke94_0, r15, if_neg hq6]
    refine mwI_mono (o3 (d + 49) _ ⟨⟨?_, fun i hi => ?_, fun i hi => ?_, ?_⟩, ?_, up_eq _ _ _ _ _, trivial⟩ (fun i hi => absurd hi (Nat.not_lt_zero i))) (fun x ρ2 k => ⟨k.1, fr_tr (fr_up ?_) (fr_tr (fr_up ?_) k.2)⟩)
    · rw [up_nk (by decide), up_nk (by decide)]; exact rz
    · rw [up_ns (by decide), up_ns (by decide)]; exact hT i hi
    · rw [up_ns (by decide), up_ns (by decide)]; exact hW i hi
    · rw [up_nk (by decide), up_nk (by decide)]; exact r15
    · rw [up_nk (by decide), up_eq]; rfl
    · simp [fR2, fQ]
    · simp [fR2, fQ]
  obtain ⟨x, μ1, eC, gC, fC⟩ := hC
  obtain ⟨y, ρ1, eR, gR, fR⟩ := hR
  have f1 : fr (pX tc) μ (mj_up μ1 14 0 1 0) := fr_tr (fC7_X fC) (fr_up (by simp [pX]))
  rw [ke6_0, c5, if_pos hwtc.2.2.2, eC, rI_some, eR]
  have c51 : μ1 0 0 5 = (tc : Int) := (fC 0 0 5 rfl).trans c5
  cases out with
  | inl f =>
    obtain ⟨r1, r2, r3⟩ := gR
    have gC' : x = (f : Int) := gC
    rw [gC', r2, if_neg (nf f)]
    refine ⟨_, _, _, tc, rfl, rfl, f1, fR, ⟨up_eq _ _ _ _ _, r1⟩, ⟨?_, r3⟩, Or.inl ⟨rfl, f, rfl⟩, fun j a b => absurd b (Nat.not_lt.mpr a)⟩
    rw [up_ns (by decide)]; exact c51
  | inr v =>
    obtain ⟨W, E⟩ := v
    obtain ⟨r1, r2, r3, r4, r5⟩ := gR
    obtain ⟨x1, x2, x3⟩ := gC
    obtain ⟨k1, k2⟩ := o1
    obtain ⟨hw, hw2, hb⟩ := hwtc
    obtain ⟨μ2, e2, p1, p2, p3⟩ := kc214 (d + 58) tc (mj_up μ1 14 0 1 0)
    have c52 : μ2 0 0 5 = (tc : Int) := by rw [p3 0 0 5 rfl, up_ns (by decide)]; exact c51
    rw [x1, if_pos rfl, c51, if_pos hb, Int.toNat_natCast, e2, rV_n, r2, c52, hw, hw2]
    have f2 : fr (pX tc) μ (mj_up μ2 0 0 5 ((tc + 1 : Nat) : Int)) := fr_tr f1 (fr_tr (pCp_X p3) (fr_up (by simp [pX])))
    have hW3 : E 3 = W.length := k1.2.1
    have hWz : W.length ≤ 160 := Nat.le_trans k2 z1
    refine ⟨_, _, _, tc + 1, rfl, rfl, f2, fR, ⟨?_, r1⟩, ⟨up_eq _ _ _ _ _, r3⟩, Or.inr ⟨rfl, rfl⟩, fun j a b => ?_⟩
    · rw [up_ns (by decide), p3 14 0 1 rfl]; exact up_eq _ _ _ _ _
    · obtain rfl := jtc a b
      refine ⟨fun i => ρ1 41 0 (200 * j + i), E, ⟨fun p hp => ?_, fun i hi => ?_⟩, ⟨fun p hp => r5 p hp, fun i hi => rfl⟩, tOK_p k1 hWz r4⟩
      · rw [up_ns (by decide), p1 p hp, up_ns (by decide)]; exact x3 p hp
      · rw [hW3] at hi
        rw [up_ns (by decide), p2 i (Nat.lt_of_lt_of_le hi hWz), up_ns (by decide)]
        exact rep_unc x2 r4 i hi
