/-! change -/
theorem ne3 (c k w w' : Nat) (hw : w < 3) (hw' : w' < 3) (h : c ≠ k ∨ w ≠ w') : 3 * c + w ≠ 3 * k + w' := by omega
theorem Inv_change {μ ρ : mj_M} (h : Inv μ ρ) (k w : Nat) (v : Int) (hw : w < 3) (hr : (w = 0 → rg v 0 15) ∧ (w = 1 → rg v 0 9) ∧ (w = 2 → rg v (-1) 119)) : Inv (mj_up μ (2 + w) 0 k v) (mj_up ρ 34 0 (3 * k + w) v) := by
  obtain ⟨n, m, t, tc, z, hA⟩ := h
  have hA0 := hA
  obtain ⟨⟨⟨a1, a2, a3, a4, a5, a6⟩, hb, hc4, hcs, has⟩, -⟩ := hA
  have hw' : w = 0 ∨ w = 1 ∨ w = 2 := by omega
  rcases hw' with rfl | rfl | rfl
  · show Inv (mj_up μ 2 0 k v) (mj_up ρ 34 0 (3 * k) v)
    refine Inv_hall (n' := n) (m' := m) (μ' := mj_up μ 2 0 k v) hA0 (fr_up rfl) (fr_up rfl) ?_ (Nat.le_refl m)
    rw [mC_up rfl, mR_up rfl]
    refine ⟨⟨a1, a2, a3, a4, a5, a6⟩, hb, hc4, fun c hc => ?_, has⟩
    obtain ⟨h1, h2, h3⟩ := hcs c hc
    refine ⟨?_, ?_, ?_⟩
    · by_cases e : c = k
      · rw [e, up_eq, up_eq]; exact ⟨rfl, hr.1 rfl⟩
      · rw [up_nk (show 3 * c ≠ 3 * k from ne3 c k 0 0 hw hw (Or.inl e)), up_nk e]; exact h1
    · rw [up_nk (show 3 * c + 1 ≠ 3 * k from ne3 c k 1 0 (by decide) hw (Or.inr (by decide))), up_ns (by decide)]; exact h2
    · rw [up_nk (show 3 * c + 2 ≠ 3 * k from ne3 c k 2 0 (by decide) hw (Or.inr (by decide))), up_ns (by decide)]; exact h3
  · refine Inv_hall (n' := n) (m' := m) (μ' := mj_up μ 3 0 k v) hA0 (fr_up rfl) (fr_up rfl) ?_ (Nat.le_refl m)
    rw [mC_up rfl, mR_up rfl]
    refine ⟨⟨a1, a2, a3, a4, a5, a6⟩, hb, hc4, fun c hc => ?_, has⟩
    obtain ⟨h1, h2, h3⟩ := hcs c hc
    refine ⟨?_, ?_, ?_⟩
    · rw [up_nk (show 3 * c ≠ 3 * k + 1 from ne3 c k 0 1 (by decide) hw (Or.inr (by decide))), up_ns (by decide)]; exact h1
    · by_cases e : c = k
      · rw [e, up_eq, up_eq]; exact ⟨rfl, hr.2.1 rfl⟩
      · rw [up_nk (ne3 c k 1 1 hw hw (Or.inl e)), up_nk e]; exact h2
    · rw [up_nk (ne3 c k 2 1 (by decide) hw (Or.inr (by decide))), up_ns (by decide)]; exact h3
  · refine Inv_hall (n' := n) (m' := m) (μ' := mj_up μ 4 0 k v) hA0 (fr_up rfl) (fr_up rfl) ?_ (Nat.le_refl m)
    rw [mC_up rfl, mR_up rfl]
    refine ⟨⟨a1, a2, a3, a4, a5, a6⟩, hb, hc4, fun c hc => ?_, has⟩
    obtain ⟨h1, h2, h3⟩ := hcs c hc
    refine ⟨?_, ?_, ?_⟩
    · rw [up_nk (show 3 * c ≠ 3 * k + 2 from ne3 c k 0 2 (by decide) hw (Or.inr (by decide))), up_ns (by decide)]; exact h1
    · rw [up_nk (ne3 c k 1 2 (by decide) hw (Or.inr (by decide))), up_ns (by decide)]; exact h2
    · by_cases e : c = k
      · rw [e, up_eq, up_eq]; exact ⟨rfl, hr.2.2 rfl⟩
      · rw [up_nk (ne3 c k 2 2 hw hw (Or.inl e)), up_nk e]; exact h3
theorem op_change (d : Nat) (c w v : Int) {μ ρ : mj_M} (h : Inv μ ρ) : mw2 (kc (d + 20) 1 [v_r 0 0, v_i c, v_i w, v_i v] μ) (kc (d + 20) 78 [v_r 33 0, v_i c, v_i w, v_i v] ρ) := by
  obtain ⟨I, t, hD, -⟩ := Inv_day h
  obtain ⟨n4, m16, t6, cn, rn, cm, rm⟩ := dAll_n hD
  rw [ke1_0, ke78_0, kc49 (d + 17) c μ I.n cn (by omega), kc74 (d + 17) c ρ I.n rn (by omega), rI_some, rI_some]
  by_cases q : 0 ≤ c ∧ c < (I.n : Int)
  · obtain ⟨k, rfl⟩ : ∃ k : Nat, c = k := ⟨c.toNat, by omega⟩
    have hk : k < I.n := by omega
    have hb4 : 0 ≤ (k : Int) ∧ (k : Int) < 4 := by omega
    rw [b01_t q, if_neg n10, if_neg n10]
    have n20 : ¬ (2 : Int) = 0 := by decide
    have n21 : ¬ (2 : Int) = 1 := by decide
    by_cases qw : 0 ≤ w ∧ w ≤ 2
    · obtain ⟨j, rfl⟩ : ∃ j : Nat, w = j := ⟨w.toNat, by omega⟩
      have hw := w3c k j (by omega) (by omega)
      have hj : j = 0 ∨ j = 1 ∨ j = 2 := by omega
      rcases hj with rfl | rfl | rfl
      · have z0 : ((0 : Nat) : Int) = 0 := rfl
        rw [ke51_0, if_pos z0, kc44, rI_some, if_pos b01_01, rI_some, ke76_0, if_pos z0, kc72, rI_some, if_pos b01_01, rI_some]
        by_cases qv : 0 ≤ v ∧ v ≤ 15
        · rw [b01_t qv, if_neg n10, if_neg n10, ke52_0, if_pos z0, if_pos hb4, rI_some, if_pos z0, if_pos hb4, hw.1, if_pos hw.2, if_pos hw.2, Int.toNat_natCast, Int.toNat_natCast]
          exact ⟨_, _, _, rfl, by rw [hD.1.does k hk, show 3 * k + 0 = 3 * k from rfl, hD.2.1.does k hk], Inv_change h k 0 v (by decide) ⟨fun _ => qv, fun e => absurd e (by decide), fun e => absurd e (by decide)⟩⟩
        · rw [b01_f qv, if_pos rfl, if_pos rfl]; exact mw2_same _ h
      · have z0 : ¬ ((1 : Nat) : Int) = 0 := by decide
        have z1 : ((1 : Nat) : Int) = 1 := rfl
        rw [ke51_0, if_neg z0, if_pos z1, kc44, rI_some, if_pos b01_01, rI_some, ke76_0, if_neg z0, if_pos z1, kc72, rI_some, if_pos b01_01, rI_some]
        by_cases qv : 0 ≤ v ∧ v ≤ 9
        · rw [b01_t qv, if_neg n10, if_neg n10, ke52_0, if_neg z0, if_pos z1, if_pos hb4, rI_some, if_neg z0, if_pos z1, if_pos hb4, hw.1, if_pos hw.2, if_pos hw.2, Int.toNat_natCast, Int.toNat_natCast]
          exact ⟨_, _, _, rfl, by rw [hD.1.slow k hk, hD.2.1.slow k hk], Inv_change h k 1 v (by decide) ⟨fun e => absurd e (by decide), fun _ => qv, fun e => absurd e (by decide)⟩⟩
        · rw [b01_f qv, if_pos rfl, if_pos rfl]; exact mw2_same _ h
      · have z0 : ¬ ((2 : Nat) : Int) = 0 := by decide
        have z1 : ¬ ((2 : Nat) : Int) = 1 := by decide
        have z2 : ((2 : Nat) : Int) = 2 := rfl
        rw [ke51_0, if_neg z0, if_neg z1, if_pos z2, kc44, rI_some, if_pos b01_01, rI_some, ke76_0, if_neg z0, if_neg z1, if_pos z2, kc72, rI_some]
        by_cases qv : -1 ≤ v ∧ v ≤ 119
        · rw [b01_t qv, if_neg n10, if_neg n10, rI_some, if_neg n10, ke52_0, if_neg z0, if_neg z1, if_pos hb4, rI_some, if_neg z0, if_neg z1, if_pos hb4, hw.1, if_pos hw.2, if_pos hw.2, Int.toNat_natCast, Int.toNat_natCast]
          exact ⟨_, _, _, rfl, by rw [hD.1.pause k hk, hD.2.1.pause k hk], Inv_change h k 2 v (by decide) ⟨fun e => absurd e (by decide), fun e => absurd e (by decide), fun _ => qv⟩⟩
        · rw [b01_f qv, if_pos rfl, if_pos rfl, rI_some, if_pos rfl]; exact mw2_same _ h
    · have w0 : ¬ w = 0 := by omega
      have w1 : ¬ w = 1 := by omega
      have w2 : ¬ w = 2 := by omega
      rw [ke51_0, if_neg w0, if_neg w1, if_neg w2, rI_some, if_pos rfl, ke76_0, if_neg w0, if_neg w1, if_neg w2, rI_some, if_pos rfl]
      exact mw2_same _ h
  · rw [b01_f q, if_pos rfl, if_pos rfl]; exact mw2_same _ h
