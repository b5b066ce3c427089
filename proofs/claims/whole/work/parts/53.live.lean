/-! a plan is copied; the day by the hall as it is -/
def cpP (μ' μ : mj_M) (i0 i1 : Nat) : Prop := (∀ k, k ∈ [0, 4, 6, 7, 8, 9, 10, 11] → μ' 1 i0 k = μ 1 i1 k) ∧ (∀ c, c < 4 → μ' 2 i0 c = μ 2 i1 c ∧ μ' 3 i0 c = μ 3 i1 c ∧ μ' 4 i0 c = μ 4 i1 c) ∧ ∀ a, a < 16 → μ' 5 i0 a = μ 5 i1 a
def frP (i0 : Nat) : Nat → Nat → Nat → Bool := fun s i _ => i == i0 && [1, 2, 3, 4, 5].contains s
theorem frP_up {i0 s k : Nat} {x : Int} {μ : mj_M} (h : [1, 2, 3, 4, 5].contains s = true) : fr (frP i0) μ (mj_up μ s i0 k x) := fr_up (by unfold frP; rw [h]; simp)
theorem frP_ni {i0 i : Nat} {μ μ' : mj_M} (h : fr (frP i0) μ μ') (hi : i ≠ i0) (s k : Nat) : μ' s i k = μ s i k := h s i k (by unfold frP; simp [hi])
theorem frP_ns {i0 s : Nat} {μ μ' : mj_M} (h : fr (frP i0) μ μ') (hs : [1, 2, 3, 4, 5].contains s = false) (i k : Nat) : μ' s i k = μ s i k := h s i k (by unfold frP; rw [hs, Bool.and_false])
theorem kc191 (d i0 i1 : Nat) (μ : mj_M) (hi : i1 ≠ i0) (h10 : μ 1 i1 10 = 0 ∨ μ 1 i1 10 = 1) (h11 : μ 1 i1 11 = 0 ∨ μ 1 i1 11 = 1) :
    mwV (kc (d + 1) 191 [v_r 1 i0, v_r 1 i1] μ) (fun μ' => cpP μ' μ i0 i1 ∧ fr (frP i0) μ μ') := by
  have l3 : ∀ j k (μ1 : mj_M), k + j = 16 → fr (frP i0) μ μ1 → μ1 1 i0 0 = μ 1 i1 0 → μ1 1 i0 4 = μ 1 i1 4 → (∀ c, c < 4 → μ1 2 i0 c = μ 2 i1 c ∧ μ1 3 i0 c = μ 3 i1 c ∧ μ1 4 i0 c = μ 4 i1 c) → (∀ a, a < k → μ1 5 i0 a = μ 5 i1 a) →
      mwV (kd d 191 3 [some (v_r 1 i0), some (v_r 1 i1), some (v_i (k : Int))] [] μ1) (fun μ' => cpP μ' μ i0 i1 ∧ fr (frP i0) μ μ') := by
    intro j
    induction j with
    | zero =>
      intro k μ1 hk hf h0 h4 hc ha
      have e : k = 16 := by omega
      rw [ke191_3, if_neg (by omega), frP_ni hf hi, frP_ni hf hi, if_pos h10, if_pos h11, frP_ni hf hi, frP_ni hf hi, frP_ni hf hi, frP_ni hf hi]
      refine mwV_ret ⟨⟨?_, ?_, ?_⟩, fr_tr hf (fr_tr (fr_tr (fr_tr (fr_tr (fr_tr (frP_up rfl) (frP_up rfl)) (frP_up rfl)) (frP_up rfl)) (frP_up rfl)) (frP_up rfl))⟩
      · intro k hk
        simp only [List.mem_cons, List.not_mem_nil, or_false] at hk
        rcases hk with rfl | rfl | rfl | rfl | rfl | rfl | rfl | rfl
        · simp [up_ap]; exact h0
        · simp [up_ap]; exact h4
        all_goals simp [up_ap]
      · intro c hc'
        simp [up_ap]; exact hc c hc'
      · intro a ha'
        simp [up_ap]; exact ha a (by omega)
    | succ j ih =>
      intro k μ1 hk hf h0 h4 hc ha
      have hb : 0 ≤ (k : Int) ∧ (k : Int) < 16 := by omega
      rw [ke191_3, if_pos (by omega), if_pos hb, if_pos hb, Int.toNat_natCast, frP_ni hf hi, wk k (m := 16) (by omega) (by omega)]
      refine ih (k + 1) _ (by omega) (fr_tr hf (frP_up rfl)) ?_ ?_ ?_ ?_
      · rw [up_ns (by decide)]; exact h0
      · rw [up_ns (by decide)]; exact h4
      · intro c hc'; rw [up_ns (by decide), up_ns (by decide), up_ns (by decide)]; exact hc c hc'
      · intro a ha'
        by_cases e : a = k
        · rw [e, up_eq]
        · rw [up_nk e]; exact ha a (by omega)
  have l1 : ∀ j k (μ1 : mj_M), k + j = 4 → fr (frP i0) μ μ1 → μ1 1 i0 0 = μ 1 i1 0 → (∀ c, c < k → μ1 2 i0 c = μ 2 i1 c ∧ μ1 3 i0 c = μ 3 i1 c ∧ μ1 4 i0 c = μ 4 i1 c) →
      mwV (kd d 191 1 [some (v_r 1 i0), some (v_r 1 i1), some (v_i (k : Int))] [] μ1) (fun μ' => cpP μ' μ i0 i1 ∧ fr (frP i0) μ μ') := by
    intro j
    induction j with
    | zero =>
      intro k μ1 hk hf h0 hc
      have e : k = 4 := by omega
      rw [e] at hc
      rw [ke191_1, if_neg (by omega), frP_ni hf hi]
      refine l3 16 0 _ (by omega) (fr_tr hf (frP_up rfl)) ?_ (up_eq _ _ _ _ _) ?_ (fun a ha => absurd ha (Nat.not_lt_zero _))
      · rw [up_nk (by decide)]; exact h0
      · intro c hc'; rw [up_ns (by decide), up_ns (by decide), up_ns (by decide)]; exact hc c hc'
    | succ j ih =>
      intro k μ1 hk hf h0 hc
      have hb : 0 ≤ (k : Int) ∧ (k : Int) < 4 := by omega
      rw [ke191_1, if_pos (by omega), if_pos hb, if_pos hb, if_pos hb, if_pos hb, if_pos hb, if_pos hb, Int.toNat_natCast, wk k (m := 16) (by omega) (by omega)]
      rw [frP_ni hf hi, frP_ni hf hi, frP_ni hf hi]
      refine ih (k + 1) _ (by omega) (fr_tr (fr_tr (fr_tr hf (frP_up rfl)) (frP_up rfl)) (frP_up rfl)) ?_ (fun c hc' => ?_)
      · rw [up_ns (by decide), up_ns (by decide), up_ns (by decide)]; exact h0
      · by_cases e : c = k
        · rw [e]; simp [up_ap]
        · have := hc c (by omega); simp [up_ap, e]; exact this
  rw [ke191_0]
  exact l1 4 0 _ (by omega) (frP_up rfl) (up_eq _ _ _ _ _) (fun c hc => absurd hc (Nat.not_lt_zero _))
theorem iC_cp {μ μ' : mj_M} {I : pI} {t i0 i1 : Nat} (hI : iC μ i1 I t) (hO : iOK I) (hc : cpP μ' μ i0 i1) (hf : fr (frP i0) μ μ') : iC μ' i0 I t := by
  have hn := hO.n; have hm := hO.m
  obtain ⟨c1, c2, c3⟩ := hc
  refine ⟨?_, ?_, ?_, ?_, ?_, ?_, ?_, ?_, ?_, ?_, ?_, ?_, ?_⟩
  · rw [c1 0 (by decide)]; exact hI.n
  · rw [c1 4 (by decide)]; exact hI.m
  · rw [c1 6 (by decide)]; exact hI.who
  · rw [c1 7 (by decide)]; exact hI.called
  · rw [c1 8 (by decide)]; exact hI.stop
  · rw [c1 10 (by decide)]; exact hI.quick
  · rw [c1 11 (by decide)]; exact hI.right
  · intro c hc; rw [(c2 c (by omega)).1]; exact hI.does c hc
  · intro c hc; rw [(c2 c (by omega)).2.1]; exact hI.slow c hc
  · intro c hc; rw [(c2 c (by omega)).2.2]; exact hI.pause c hc
  · intro a ha; rw [c3 a (by omega)]; exact hI.comes a ha
  · intro a ha; rw [frP_ns hf (by decide), frP_ns hf (by decide), frP_ns hf (by decide), frP_ns hf (by decide)]; exact hI.asker a ha
  · exact ⟨fun p hp => by rw [frP_ns hf (by decide)]; exact hI.txt.1 p hp, fun j hj => by rw [frP_ns hf (by decide)]; exact hI.txt.2 j hj⟩
/-- what may be left behind by trying a day: the class's; the reference's -/
def sC : Nat → Nat → Nat → Bool := fun s i _ => [12, 13, 16, 17, 21, 22, 23, 24, 25, 26, 27, 28, 29, 30, 31, 32].contains s || ([1, 2, 3, 4, 5].contains s && i == 2)
def sR : Nat → Nat → Nat → Bool := fun s _ k => [50, 51, 52, 53, 54, 55, 56, 57, 58, 59, 60, 61, 62].contains s || (s == 33 && [30, 31, 32, 33, 36, 37, 38, 51].contains k)
theorem sC_P {μ μ' : mj_M} (h : fr (frP 2) μ μ') : fr sC μ μ' := fr_mono h (fun s i k q => by unfold sC at q; unfold frP; rw [Bool.or_eq_false_iff] at q; rw [Bool.and_comm]; exact q.2)
theorem sC_S {l : List Nat} {μ μ' : mj_M} (h : fr (fS l) μ μ') (hl : ∀ s, s ∈ l → s ∈ [12, 13, 16, 17, 21, 22, 23, 24, 25, 26, 27, 28, 29, 30, 31, 32]) : fr sC μ μ' := fr_mono h (fun s i k q => by
  unfold sC at q; unfold fS; rw [Bool.or_eq_false_iff] at q
  cases hc : l.contains s with
  | false => rfl
  | true =>
    have h1 := hl s (by simpa using hc)
    have h2 := q.1
    rw [show [12, 13, 16, 17, 21, 22, 23, 24, 25, 26, 27, 28, 29, 30, 31, 32].contains s = true by simpa using h1] at h2
    cases h2)
theorem sR_S {l : List Nat} {μ μ' : mj_M} (h : fr (fS l) μ μ') (hl : ∀ s, s ∈ l → s ∈ [50, 51, 52, 53, 54, 55, 56, 57, 58, 59, 60, 61, 62]) : fr sR μ μ' := fr_mono h (fun s i k q => by
  unfold sR at q; unfold fS; rw [Bool.or_eq_false_iff] at q
  cases hc : l.contains s with
  | false => rfl
  | true =>
    have h1 := hl s (by simpa using hc)
    have h2 := q.1
    rw [show [50, 51, 52, 53, 54, 55, 56, 57, 58, 59, 60, 61, 62].contains s = true by simpa using h1] at h2
    cases h2)
theorem kc56 (d : Nat) (μ : mj_M) (I : pI) (t : Nat) (hI : iC μ 0 I t) (hO : iOK I) (ht : μ 1 0 9 = (t : Int)) (hq : I.quick = 0 ∨ I.quick = 1) (hr : I.right = 0 ∨ I.right = 1) :
    mwV (kc (d + 2) 56 [v_r 0 0] μ) (fun μ' => iC μ' 2 I t ∧ μ' 1 2 9 = (t : Int) ∧ cpP μ' μ 2 0 ∧ fr (frP 2) μ μ') := by
  rw [ke56_0]
  refine mwV_rV (mwV_mono (kc191 d 2 0 μ (by decide) (by rw [hI.quick]; exact hq) (by rw [hI.right]; exact hr)) (fun μ' h => ?_))
  obtain ⟨h1, h2⟩ := h
  exact mwV_ret ⟨iC_cp hI hO h1 h2, by rw [h1.1 9 (by decide)]; exact ht, h1, h2⟩
theorem kc57 (d : Nat) (μ : mj_M) (I : pI) (t : Nat) (hI : iC μ 2 I t) (hO : iOK I) (ht : μ 1 2 9 = (t : Int)) (h6 : t < 6) :
    mwV (kc (d + 5) 57 [v_r 0 0] μ) (fun μ' => zC μ' I (pLife I) ∧ iC μ' 2 I t ∧ fr (fS dC) μ μ') := by
  rw [ke57_0, ht, if_pos (by omega), Int.toNat_natCast]
  refine mwV_rV (mwV_mono (kc170 d μ I t hI hO) (fun μ' h => ?_))
  exact mwV_ret ⟨h.1, iC_fr hI h.2 (by decide), h.2⟩
theorem kc58 (d : Nat) (μ : mj_M) (I : pI) (t : Nat) (hI : iC μ 0 I t) (hO : iOK I) (ht : μ 1 0 9 = (t : Int)) (h6 : t < 6) (hq : I.quick = 0 ∨ I.quick = 1) (hr : I.right = 0 ∨ I.right = 1) :
    mwV (kc (d + 6) 58 [v_r 0 0] μ) (fun μ' => zC μ' I (pLife I) ∧ iC μ' 2 I t ∧ μ' 1 2 9 = (t : Int) ∧ cpP μ' μ 2 0 ∧ fr sC μ μ') := by
  rw [ke58_0]
  refine mwV_rV (mwV_mono (kc56 (d + 3) μ I t hI hO ht hq hr) (fun μ1 h => ?_))
  obtain ⟨h1, h2, h3, h4⟩ := h
  refine mwV_rV (mwV_mono (kc57 d μ1 I t h1 hO h2 h6) (fun μ2 h => ?_))
  obtain ⟨g1, g2, g3⟩ := h
  refine mwV_ret ⟨g1, g2, by rw [fS_rd g3 rfl]; exact h2, ⟨fun k hk => by rw [fS_rd g3 rfl]; exact h3.1 k hk, fun c hc => by rw [fS_rd g3 rfl, fS_rd g3 rfl, fS_rd g3 rfl]; exact h3.2.1 c hc, fun a ha => by rw [fS_rd g3 rfl]; exact h3.2.2 a ha⟩, fr_tr (sC_P h4) (sC_S g3 (by decide))⟩
