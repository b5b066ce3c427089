/-! image, back -/
def pM : Nat → Nat → Nat → Bool := fun s i k => (s == 0 && k == 2) || ([1, 2, 3, 4, 5].contains s && i == 1)
def qM : Nat → Nat → Nat → Bool := fun s _ k => s == 43 || s == 44 || (s == 33 && [17, 18, 19, 20, 21, 22, 23].contains k)
theorem pM_P {μ μ' : mj_M} (h : fr (frP 1) μ μ') : fr pM μ μ' := fr_mono h (fun s i k q => by unfold pM at q; unfold frP; rw [Bool.or_eq_false_iff] at q; rw [Bool.and_comm]; exact q.2)
theorem kd155 (d : Nat) (ρ : mj_M) : ∀ j k (ρ1 : mj_M), k + j = 16 → fr qM ρ ρ1 → (∀ i, 17 ≤ i → ρ1 33 0 i = ρ1 33 0 i) → (∀ i, i < 12 → ρ1 43 0 i = ρ 34 0 i) → (∀ i, i < k → ρ1 44 0 i = ρ 39 0 i) →
    mwI (kd d 155 3 [some (v_r 33 0), some (v_i (k : Int))] [] ρ1) (fun x ρ' => x = ρ 33 0 5 ∧ fr qM ρ ρ' ∧ (∀ i, ρ' 33 0 i = ρ1 33 0 i) ∧ (∀ i, i < 12 → ρ' 43 0 i = ρ 34 0 i) ∧ ∀ i, i < 16 → ρ' 44 0 i = ρ 39 0 i) := by
  intro j
  induction j with
  | zero =>
    intro k ρ1 hk hf h0 h1 h2
    have e : k = 16 := by omega
    rw [ke155_3, if_neg (by omega)]
    exact mwI_ret ⟨hf 33 0 5 rfl, hf, fun _ => rfl, h1, e ▸ h2⟩
  | succ j ih =>
    intro k ρ1 hk hf h0 h1 h2
    rw [ke155_3, if_pos (by omega), if_pos (by omega), if_pos (by omega), Int.toNat_natCast, wk k (m := 16) (by omega) (by omega), hf 39 0 k rfl]
    refine mwI_mono (ih (k + 1) _ (by omega) (fr_tr hf (fr_up rfl)) (fun _ _ => rfl) (fun i hi => ?_) (fun i hi => ?_)) (fun x ρ' g => ⟨g.1, g.2.1, fun i => ?_, g.2.2.2⟩)
    · rw [up_ns (by decide)]; exact h1 i hi
    · by_cases e : i = k
      · rw [e, up_eq]
      · rw [up_nk e]; exact h2 i (by omega)
    · rw [g.2.2.1 i, up_ns (by decide)]
theorem kd155b (d : Nat) (ρ : mj_M) : ∀ j k (ρ1 : mj_M), k + j = 12 → fr qM ρ ρ1 → (∀ i, i < k → ρ1 43 0 i = ρ 34 0 i) →
    mwI (kd d 155 1 [some (v_r 33 0), some (v_i (k : Int))] [] ρ1) (fun x ρ' => x = ρ 33 0 5 ∧ fr qM ρ ρ' ∧ (∀ i, ρ' 33 0 i = ρ1 33 0 i) ∧ (∀ i, i < 12 → ρ' 43 0 i = ρ 34 0 i) ∧ ∀ i, i < 16 → ρ' 44 0 i = ρ 39 0 i) := by
  intro j
  induction j with
  | zero =>
    intro k ρ1 hk hf h1
    have e : k = 12 := by omega
    rw [ke155_1, if_neg (by omega)]
    exact kd155 d ρ 16 0 ρ1 (by omega) hf (fun _ _ => rfl) (e ▸ h1) (fun i hi => absurd hi (Nat.not_lt_zero i))
  | succ j ih =>
    intro k ρ1 hk hf h1
    rw [ke155_1, if_pos (by omega), if_pos (by omega), if_pos (by omega), Int.toNat_natCast, wk k (m := 12) (by omega) (by omega), hf 34 0 k rfl]
    refine mwI_mono (ih (k + 1) _ (by omega) (fr_tr hf (fr_up rfl)) (fun i hi => ?_)) (fun x ρ' g => ⟨g.1, g.2.1, fun i => ?_, g.2.2.2⟩)
    · by_cases e : i = k
      · rw [e, up_eq]
      · rw [up_nk e]; exact h1 i (by omega)
    · rw [g.2.2.1 i, up_ns (by decide)]
theorem Inv_image {μ ρ μ1 ρ1 : mj_M} (h : Inv μ ρ) (f : fr pM μ μ1) (f' : fr qM ρ ρ1) (c0 : μ1 0 0 2 = 1) (hc : cpP μ1 μ 1 0) (r0 : ρ1 33 0 17 = 1 ∧ ρ1 33 0 18 = ρ 33 0 0 ∧ ρ1 33 0 19 = ρ 33 0 2 ∧ ρ1 33 0 20 = ρ 33 0 3 ∧ ρ1 33 0 21 = ρ 33 0 4 ∧ ρ1 33 0 22 = ρ 33 0 5 ∧ ρ1 33 0 23 = ρ 33 0 16) (r1 : ∀ i, i < 12 → ρ1 43 0 i = ρ 34 0 i) (r2 : ∀ i, i < 16 → ρ1 44 0 i = ρ 39 0 i) : Inv μ1 ρ1 := by
  obtain ⟨n, m, t, tc, z, hH, hT, hP, hM, hS⟩ := h
  have g := mC_frm f
  have g' := mR_frm f'
  refine ⟨n, m, t, tc, z, vHall_cg hH (fr_no g (fun s i k q => by simp [pM] at q; simp [nH]; omega)) (fr_no g' (fun s i k q => by simp [qM] at q; simp [nH']; omega)), vText_cg hT (fr_no g (fun s i k q => by simp [pM] at q; simp [nT]; omega)) (fr_no g' (fun s i k q => by simp [qM] at q; simp [nT']; omega)), vTape_cg hP (fr_no g (fun s i k q => by simp [pM] at q; simp [nP]; omega)) (fr_no g' (fun s i k q => by simp [qM] at q; simp [nP']; omega)), ?_, vSheets_cg hS (fr_no g (fun s i k q => by simp [pM] at q; simp [nS]; omega)) (fr_no g' (fun s i k q => by simp [qM] at q; simp [nS']; omega))⟩
  obtain ⟨⟨a1, a2, a3, a4, a5, a6⟩, ⟨b1, b2, b3⟩, ⟨c1, c2, c3, c4⟩, hcs, has⟩ := hH
  obtain ⟨⟨t1, t2, t3, t4, t5, t6⟩, hT2⟩ := hT
  obtain ⟨e1, e2, e3⟩ := hc
  obtain ⟨r17, r18, r19, r20, r21, r22, r23⟩ := r0
  have k1 : ∀ k, k ∈ [0, 4, 6, 7, 8, 9, 10, 11] → mC μ1 1 1 k = mC μ 1 0 k := fun k hk => e1 k hk
  refine Or.inr ⟨c0, r17, n, m, t, ⟨a1, Nat.le_refl _, t1, (k1 0 (by decide)).trans a3, ?_, (k1 4 (by decide)).trans a5, ?_, (k1 9 (by decide)).trans t3, ?_⟩, ⟨?_, ?_, ?_⟩, ⟨(k1 10 (by decide)).trans c1, (k1 11 (by decide)).trans c2⟩, fun c hc' => ?_, fun a ha => ?_⟩
  · exact r18.trans a4
  · exact r22.trans a6
  · exact r23.trans t4
  · rw [k1 6 (by decide)]; exact ⟨r19.trans b1.1, b1.2⟩
  · rw [k1 7 (by decide)]; exact ⟨r20.trans b2.1, b2.2⟩
  · rw [k1 8 (by decide)]; exact ⟨r21.trans b3.1, b3.2⟩
  · have h1 := e2 c (by omega)
    rw [show mC μ1 2 1 c = mC μ 2 0 c from h1.1, show mC μ1 3 1 c = mC μ 3 0 c from h1.2.1, show mC μ1 4 1 c = mC μ 4 0 c from h1.2.2, show mR ρ1 43 0 (3 * c) = mR ρ 34 0 (3 * c) from r1 _ (by omega), show mR ρ1 43 0 (3 * c + 1) = mR ρ 34 0 (3 * c + 1) from r1 _ (by omega), show mR ρ1 43 0 (3 * c + 2) = mR ρ 34 0 (3 * c + 2) from r1 _ (by omega)]
    exact hcs c hc'
  · rw [show mC μ1 5 1 a = mC μ 5 0 a from e3 a (by omega), show mR ρ1 44 0 a = mR ρ 39 0 a from r2 a (by omega)]
    exact (has a ha).2.2.2.2
theorem op_image (d : Nat) {μ ρ : mj_M} (h : Inv μ ρ) : mw2 (kc (d + 20) 37 [v_r 0 0] μ) (kc (d + 20) 155 [v_r 33 0] ρ) := by
  obtain ⟨I, t, hD, -⟩ := Inv_day h
  obtain ⟨n4, m16, t6, cn, rn, cm, rm⟩ := dAll_n hD
  rw [ke37_0, ke155_0]
  obtain ⟨μ1, e, h1, h2⟩ := kc191 (d + 18) 1 0 μ (by decide) (Or.inl (hD.1.quick.trans hD.2.2.2.2.1)) (Or.inl (hD.1.right.trans hD.2.2.2.2.2))
  rw [e, rV_some, frP_ni h2 (by decide), cm]
  generalize hρ1 : mj_up (mj_up (mj_up (mj_up (mj_up (mj_up (mj_up ρ 33 0 17 1) 33 0 18 (ρ 33 0 0)) 33 0 19 (ρ 33 0 2)) 33 0 20 (ρ 33 0 3)) 33 0 21 (ρ 33 0 4)) 33 0 22 (ρ 33 0 5)) 33 0 23 (ρ 33 0 16) = ρ1
  have hf : fr qM ρ ρ1 := by
    rw [← hρ1]
    exact fr_tr (fr_tr (fr_tr (fr_tr (fr_tr (fr_tr (fr_up rfl) (fr_up rfl)) (fr_up rfl)) (fr_up rfl)) (fr_up rfl)) (fr_up rfl)) (fr_up rfl)
  have hv : ρ1 33 0 17 = 1 ∧ ρ1 33 0 18 = ρ 33 0 0 ∧ ρ1 33 0 19 = ρ 33 0 2 ∧ ρ1 33 0 20 = ρ 33 0 3 ∧ ρ1 33 0 21 = ρ 33 0 4 ∧ ρ1 33 0 22 = ρ 33 0 5 ∧ ρ1 33 0 23 = ρ 33 0 16 := by
    rw [← hρ1]; simp [up_ap]
  obtain ⟨x, ρ2, e2, rfl, g1, g2, g3, g4⟩ := kd155b (d + 19) ρ 12 0 ρ1 (by omega) hf (fun i hi => absurd hi (Nat.not_lt_zero i))
  have hcp : cpP (mj_up μ1 0 0 2 1) μ 1 0 := ⟨fun k hk => by rw [up_ns (by decide)]; exact h1.1 k hk, fun c hc => by rw [up_ns (by decide), up_ns (by decide), up_ns (by decide)]; exact h1.2.1 c hc, fun a ha => by rw [up_ns (by decide)]; exact h1.2.2 a ha⟩
  rw [rm] at e2
  refine ⟨_, _, ρ2, rfl, e2, Inv_image h (fr_tr (pM_P h2) (fr_up rfl)) g1 (up_eq _ _ _ _ _) hcp ?_ g3 g4⟩
  rw [g2, g2, g2, g2, g2, g2, g2]
  exact hv
/-! back -/
def qB : Nat → Nat → Nat → Bool := fun s _ k => s == 34 || s == 39 || (s == 33 && [0, 2, 3, 4, 5, 16].contains k)
theorem kd156 (d : Nat) (ρ : mj_M) (x5 : Int) : ∀ j k (ρ1 : mj_M), k + j = 16 → fr qB ρ ρ1 → ρ1 33 0 5 = x5 → (∀ i, i < 12 → ρ1 34 0 i = ρ 43 0 i) → (∀ i, i < k → ρ1 39 0 i = ρ 44 0 i) →
    mwI (kd d 156 4 [some (v_r 33 0), some (v_i (k : Int))] [] ρ1) (fun x ρ' => x = x5 ∧ fr qB ρ ρ' ∧ (∀ i, ρ' 33 0 i = ρ1 33 0 i) ∧ (∀ i, i < 12 → ρ' 34 0 i = ρ 43 0 i) ∧ ∀ i, i < 16 → ρ' 39 0 i = ρ 44 0 i) := by
  intro j
  induction j with
  | zero =>
    intro k ρ1 hk hf h0 h1 h2
    have e : k = 16 := by omega
    rw [ke156_4, if_neg (by omega)]
    exact mwI_ret ⟨h0, hf, fun _ => rfl, h1, e ▸ h2⟩
  | succ j ih =>
    intro k ρ1 hk hf h0 h1 h2
    rw [ke156_4, if_pos (by omega), if_pos (by omega), if_pos (by omega), Int.toNat_natCast, wk k (m := 16) (by omega) (by omega), hf 44 0 k rfl]
    refine mwI_mono (ih (k + 1) _ (by omega) (fr_tr hf (fr_up rfl)) ?_ (fun i hi => ?_) (fun i hi => ?_)) (fun x ρ' g => ⟨g.1, g.2.1, fun i => ?_, g.2.2.2⟩)
    · rw [up_ns (by decide)]; exact h0
    · rw [up_ns (by decide)]; exact h1 i hi
    · by_cases e : i = k
      · rw [e, up_eq]
      · rw [up_nk e]; exact h2 i (by omega)
    · rw [g.2.2.1 i, up_ns (by decide)]
theorem kd156b (d : Nat) (ρ : mj_M) (x5 : Int) : ∀ j k (ρ1 : mj_M), k + j = 12 → fr qB ρ ρ1 → ρ1 33 0 5 = x5 → (∀ i, i < k → ρ1 34 0 i = ρ 43 0 i) →
    mwI (kd d 156 2 [some (v_r 33 0), some (v_i (k : Int))] [] ρ1) (fun x ρ' => x = x5 ∧ fr qB ρ ρ' ∧ (∀ i, ρ' 33 0 i = ρ1 33 0 i) ∧ (∀ i, i < 12 → ρ' 34 0 i = ρ 43 0 i) ∧ ∀ i, i < 16 → ρ' 39 0 i = ρ 44 0 i) := by
  intro j
  induction j with
  | zero =>
    intro k ρ1 hk hf h0 h1
    have e : k = 12 := by omega
    rw [ke156_2, if_neg (by omega)]
    exact kd156 d ρ x5 16 0 ρ1 (by omega) hf h0 (e ▸ h1) (fun i hi => absurd hi (Nat.not_lt_zero i))
  | succ j ih =>
    intro k ρ1 hk hf h0 h1
    rw [ke156_2, if_pos (by omega), if_pos (by omega), if_pos (by omega), Int.toNat_natCast, wk k (m := 12) (by omega) (by omega), hf 43 0 k rfl]
    refine mwI_mono (ih (k + 1) _ (by omega) (fr_tr hf (fr_up rfl)) ?_ (fun i hi => ?_)) (fun x ρ' g => ⟨g.1, g.2.1, fun i => ?_, g.2.2.2⟩)
    · rw [up_ns (by decide)]; exact h0
    · by_cases e : i = k
      · rw [e, up_eq]
      · rw [up_nk e]; exact h1 i (by omega)
    · rw [g.2.2.1 i, up_ns (by decide)]
theorem op_back (d : Nat) {μ ρ : mj_M} (h : Inv μ ρ) : mw2 (kc (d + 20) 38 [v_r 0 0] μ) (kc (d + 20) 156 [v_r 33 0] ρ) := by
  have h0 := h
  obtain ⟨n, m, t, tc, z, hH, hT, hP, hM, hS⟩ := h
  rw [ke38_0, ke156_0]
  rcases hM with ⟨h1, h2⟩ | ⟨h1, h2, n', m', t', ⟨p1, p2, p3, p4, p5, p6, p7, p8, p9⟩, ⟨⟨q1, q1'⟩, ⟨q2, q2'⟩, ⟨q3, q3'⟩⟩, ⟨u1, u2⟩, hcs', has'⟩
  · have h1' : μ 0 0 2 = 0 := h1
    have h2' : ρ 33 0 17 = 0 := h2
    rw [if_pos h1', if_pos h2']; exact mw2_same _ h0
  · have h1' : μ 0 0 2 = 1 := h1
    have h2' : ρ 33 0 17 = 1 := h2
    have u1' : μ 1 1 10 = 0 := u1
    have u2' : μ 1 1 11 = 0 := u2
    have p6' : μ 1 1 4 = (m' : Int) := p6
    have p7' : ρ 33 0 22 = (m' : Int) := p7
    rw [h1', h2', if_neg n10, if_neg n10]
    obtain ⟨μ1, e, c1, c2⟩ := kc191 (d + 18) 0 1 μ (by decide) (Or.inl u1') (Or.inl u2')
    rw [e, rV_some, c1.1 4 (by decide), p6']
    generalize hρ1 : mj_up (mj_up (mj_up (mj_up (mj_up (mj_up ρ 33 0 0 (ρ 33 0 18)) 33 0 2 (ρ 33 0 19)) 33 0 3 (ρ 33 0 20)) 33 0 4 (ρ 33 0 21)) 33 0 5 (ρ 33 0 22)) 33 0 16 (ρ 33 0 23) = ρ1
    have hf : fr qB ρ ρ1 := by
      rw [← hρ1]
      exact fr_tr (fr_tr (fr_tr (fr_tr (fr_tr (fr_up rfl) (fr_up rfl)) (fr_up rfl)) (fr_up rfl)) (fr_up rfl)) (fr_up rfl)
    have hv : ρ1 33 0 0 = ρ 33 0 18 ∧ ρ1 33 0 2 = ρ 33 0 19 ∧ ρ1 33 0 3 = ρ 33 0 20 ∧ ρ1 33 0 4 = ρ 33 0 21 ∧ ρ1 33 0 5 = ρ 33 0 22 ∧ ρ1 33 0 16 = ρ 33 0 23 := by
      rw [← hρ1]; simp [up_ap]
    obtain ⟨x, ρ2, e2, rfl, g1, g2, g3, g4⟩ := kd156b (d + 19) ρ (m' : Int) 12 0 ρ1 (by omega) hf (hv.2.2.2.2.1.trans p7') (fun i hi => absurd hi (Nat.not_lt_zero i))
    refine ⟨_, μ1, ρ2, rfl, e2, ?_⟩
    obtain ⟨⟨a1, a2, a3, a4, a5, a6⟩, hb, ⟨d1, d2, d3, d4⟩, hcs, has⟩ := hH
    obtain ⟨⟨t1, t2, t3, t4, t5, t6⟩, hT2⟩ := hT
    obtain ⟨v0, v2, v3, v4, v5, v16⟩ := hv
    have r : ∀ i, ρ2 33 0 i = ρ1 33 0 i := g2
    have k1 : ∀ k, k ∈ [0, 4, 6, 7, 8, 9, 10, 11] → mC μ1 1 0 k = mC μ 1 1 k := fun k hk => c1.1 k hk
    have g := mC_frm c2
    have g' := mR_frm g1
    refine ⟨n', m', t', tc, z, ⟨⟨p1, Nat.le_trans p2 a2, (k1 0 (by decide)).trans p4, ?_, (k1 4 (by decide)).trans p6, ?_⟩, ⟨?_, ?_, ?_⟩, ⟨(k1 10 (by decide)).trans u1, (k1 11 (by decide)).trans u2, ?_, ?_⟩, fun c hc => ?_, fun a ha => ?_⟩, ⟨⟨p3, t2, (k1 9 (by decide)).trans p8, ?_, ?_, ?_⟩, fun j hj => ?_⟩, ?_, ?_, ?_⟩
    · exact ((r 0).trans v0).trans p5
    · exact ((r 5).trans v5).trans p7
    · rw [k1 6 (by decide)]; exact ⟨((r 2).trans v2).trans q1, q1'⟩
    · rw [k1 7 (by decide)]; exact ⟨((r 3).trans v3).trans q2, q2'⟩
    · rw [k1 8 (by decide)]; exact ⟨((r 4).trans v4).trans q3, q3'⟩
    · exact (g' 33 0 41 rfl).trans d3
    · exact (g' 33 0 50 rfl).trans d4
    · have h1 := c1.2.1 c (by omega)
      rw [show mC μ1 2 0 c = mC μ 2 1 c from h1.1, show mC μ1 3 0 c = mC μ 3 1 c from h1.2.1, show mC μ1 4 0 c = mC μ 4 1 c from h1.2.2, show mR ρ2 34 0 (3 * c) = mR ρ 43 0 (3 * c) from g3 _ (by omega), show mR ρ2 34 0 (3 * c + 1) = mR ρ 43 0 (3 * c + 1) from g3 _ (by omega), show mR ρ2 34 0 (3 * c + 2) = mR ρ 43 0 (3 * c + 2) from g3 _ (by omega)]
      exact hcs' c hc
    · have h1 := has a (Nat.lt_of_lt_of_le ha p2)
      rw [g 7 a 0 (by simp [frP]), g 7 a 1 (by simp [frP]), g 7 a 2 (by simp [frP]), g 7 a 3 (by simp [frP]), g' 35 0 a rfl, g' 36 0 a rfl, g' 37 0 a rfl, g' 38 0 a rfl, show mC μ1 5 0 a = mC μ 5 1 a from c1.2.2 a (by omega), show mR ρ2 39 0 a = mR ρ 44 0 a from g4 a (by omega)]
      exact ⟨h1.1, h1.2.1, h1.2.2.1, h1.2.2.2.1, has' a ha⟩
    · exact ((r 16).trans v16).trans p9
    · rw [g 0 0 5 rfl]; exact t5
    · rw [g' 33 0 15 rfl]; exact t6
    · obtain ⟨G, E, ⟨x1, x2⟩, ⟨x3, x4⟩, x5⟩ := hT2 j hj
      exact ⟨G, E, ⟨fun p hp => by rw [g 11 j p (by simp [frP])]; exact x1 p hp, fun i hi => by rw [g 10 j i (by simp [frP])]; exact x2 i hi⟩, ⟨fun p hp => by rw [g' 42 0 _ rfl]; exact x3 p hp, fun i hi => by rw [g' 41 0 _ rfl]; exact x4 i hi⟩, x5⟩
    · exact vTape_cg hP (fr_no g (fun s i k q => by simp [frP] at q; simp [nP]; omega)) (fr_no g' (fun s i k q => by simp [qB] at q; simp [nP']; omega))
    · refine vImg_cg (Or.inr ⟨h1, h2, n', m', t', ⟨p1, Nat.le_refl _, p3, p4, p5, p6, p7, p8, p9⟩, ⟨⟨q1, q1'⟩, ⟨q2, q2'⟩, ⟨q3, q3'⟩⟩, ⟨u1, u2⟩, hcs', has'⟩) (fr_no g (fun s i k q => by simp [frP] at q; simp [nM]; omega)) (fr_no g' (fun s i k q => by simp [qB] at q; simp [nM']; omega))
    · exact vSheets_cg hS (fr_no g (fun s i k q => by simp [frP] at q; simp [nS]; omega)) (fr_no g' (fun s i k q => by simp [qB] at q; simp [nS']; omega))
