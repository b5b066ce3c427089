/-! pay, door -/
abbrev pAhead (v x : Int) : Prop := (v = 1 ∧ x = 4) ∨ (v = 3 ∧ x = 3)
def pOth (v : Int) (kd_ f b c : Nat → Int) : Nat → Int
  | 0 => 0
  | k + 1 => if pAhead v (kd_ k) then pOth v kd_ f b c k else if f k = 2 then mj_w (pOth v kd_ f b c k + pWt f b c k) else pOth v kd_ f b c k
theorem pOth_in (v : Int) (kd_ f b c : Nat → Int) : ∀ k, mj_n32 (pOth v kd_ f b c k)
  | 0 => mj_n0
  | k + 1 => by
    unfold pOth
    split
    · exact pOth_in v kd_ f b c k
    · split
      · exact mj_w_in _
      · exact pOth_in v kd_ f b c k
theorem pOth_cg {v : Int} {q q' f f' b b' c c' : Nat → Int} : ∀ {k : Nat}, (∀ a, a < k → q a = q' a ∧ f a = f' a ∧ b a = b' a ∧ c a = c' a) → pOth v q f b c k = pOth v q' f' b' c' k
  | 0, _ => rfl
  | k + 1, h => by
    obtain ⟨h0, h1, h2, h3⟩ := h k (Nat.lt_succ_self k)
    unfold pOth pWt
    rw [h0, h1, h2, h3, pOth_cg (fun a ha => h a (Nat.lt_succ_of_lt ha))]
theorem kc63 (d : Nat) (v : Int) (μ : mj_M) {m : Nat} (hm : μ 1 0 4 = (m : Int)) (h : m ≤ 16) : kc (d + 2) 63 [v_r 0 0, v_i v] μ = some (some (v_i (pOth v (fun a => μ 7 a 0) (μ 22 0) (μ 23 0) (μ 5 2) m)), μ) := by
  rw [ke63_0]
  have key : ∀ k, k ≤ m → ∀ o, kd (d + 1) 63 1 [some (v_r 0 0), some (v_i v), some (v_i (pOth v (fun a => μ 7 a 0) (μ 22 0) (μ 23 0) (μ 5 2) k)), some (v_i (k : Int)), o] [] μ = some (some (v_i (pOth v (fun a => μ 7 a 0) (μ 22 0) (μ 23 0) (μ 5 2) m)), μ) := by
    refine loop_up (fun o => ?_) (fun k hk ih o => ?_)
    · rw [ke63_1, hm, if_neg (by omega)]
    · have hb : 0 ≤ (k : Int) ∧ (k : Int) < 16 := by omega
      have hp : pOth v (fun a => μ 7 a 0) (μ 22 0) (μ 23 0) (μ 5 2) (k + 1) = if pAhead v (μ 7 k 0) then pOth v (fun a => μ 7 a 0) (μ 22 0) (μ 23 0) (μ 5 2) k else if μ 22 0 k = 2 then mj_w (pOth v (fun a => μ 7 a 0) (μ 22 0) (μ 23 0) (μ 5 2) k + pWt (μ 22 0) (μ 23 0) (μ 5 2) k) else pOth v (fun a => μ 7 a 0) (μ 22 0) (μ 23 0) (μ 5 2) k := rfl
      have h5 : ∀ o s, (s = 0 ↔ ¬ pAhead v (μ 7 k 0)) → kd (d + 1) 63 5 [some (v_r 0 0), some (v_i v), some (v_i (pOth v (fun a => μ 7 a 0) (μ 22 0) (μ 23 0) (μ 5 2) k)), some (v_i (k : Int)), o] [v_i s] μ = some (some (v_i (pOth v (fun a => μ 7 a 0) (μ 22 0) (μ 23 0) (μ 5 2) m)), μ) := by
        intro o s hs
        rw [ke63_5, if_pos hb, Int.toNat_natCast, kc178 d k μ (by omega), rI_some, wk k hk (by omega)]
        by_cases q : pAhead v (μ 7 k 0)
        · rw [if_pos q] at hp
          rw [if_neg (fun w => (hs.1 w) q), ← hp]; exact ih _
        · rw [if_neg q] at hp
          rw [if_pos (hs.2 q)]
          by_cases q2 : μ 22 0 k = 2
          · rw [if_pos q2] at hp
            rw [if_pos q2, ← hp]; exact ih _
          · rw [if_neg q2] at hp
            rw [if_neg q2, ← hp]; exact ih _
      have h2 : ∀ o, ¬ (v = 1 ∧ μ 7 k 0 = 4) → kd (d + 1) 63 2 [some (v_r 0 0), some (v_i v), some (v_i (pOth v (fun a => μ 7 a 0) (μ 22 0) (μ 23 0) (μ 5 2) k)), some (v_i (k : Int)), o] [] μ = some (some (v_i (pOth v (fun a => μ 7 a 0) (μ 22 0) (μ 23 0) (μ 5 2) m)), μ) := by
        intro o q
        rw [ke63_2, if_pos hb, Int.toNat_natCast, ke166_0]
        by_cases q3 : v = 3
        · rw [if_pos q3]
          by_cases q4 : μ 7 k 0 = 3
          · rw [if_pos q4, rI_some, if_neg n10]
            exact h5 _ _ ⟨fun w => absurd w n10, fun w => absurd (Or.inr ⟨q3, q4⟩) w⟩
          · rw [if_neg q4, rI_some, if_pos rfl]
            exact h5 _ _ ⟨fun _ w => w.elim q (fun p => q4 p.2), fun _ => rfl⟩
        · rw [if_neg q3]
          exact h5 _ _ ⟨fun _ w => w.elim q (fun p => q3 p.1), fun _ => rfl⟩
      rw [ke63_1, hm, if_pos (by omega), if_pos hb, Int.toNat_natCast, ke165_0]
      by_cases q1 : v = 1
      · rw [if_pos q1]
        by_cases q2 : μ 7 k 0 = 4
        · rw [if_pos q2, rI_some, if_neg n10]
          exact h5 _ _ ⟨fun w => absurd w n10, fun w => absurd (Or.inl ⟨q1, q2⟩) w⟩
        · rw [if_neg q2, rI_some, if_pos rfl]
          exact h2 _ (fun w => q2 w.2)
      · rw [if_neg q1]
        exact h2 _ (fun w => q1 w.1)
  exact key 0 (Nat.zero_le _) _
def pOthI (v : Int) (I : pI) : Int := pOth v I.kind (pLife I 0) (pLife I 2) I.comes I.m
theorem othC (d : Nat) (v : Int) {μ : mj_M} {I : pI} {t : Nat} (hO : iOK I) (hZ : zC μ I (pLife I)) (hI : iC μ 2 I t) (hm : μ 1 0 4 = (I.m : Int)) : kc (d + 2) 63 [v_r 0 0, v_i v] μ = some (some (v_i (pOthI v I)), μ) := by
  rw [kc63 d v μ hm hO.m]
  unfold pOthI
  rw [pOth_cg (q := fun a => μ 7 a 0) (f := μ 22 0) (b := μ 23 0) (fun a ha => ⟨(hI.asker a ha).1, zC_a hZ ha 0 (by decide), zC_a hZ ha 2 (by decide), hI.comes a ha⟩)]
theorem othR (d : Nat) (v : Int) (hv : v = 1 ∨ v = 2 ∨ v = 3) {ρ : mj_M} {I : pI} {t : Nat} (hO : iOK I) (hI : iR ρ I t) : mwI (kc (d + 8) 131 [v_r 33 0, v_i v] ρ) (fun x ρ' => x = pOthI v I ∧ iR ρ' I t ∧ fr (fS dR) ρ ρ') := by
  have hm := hO.m
  rw [ke131_0]
  refine mwI_rV (mwV_mono (kc112 d I t ρ hO hI) (fun μ g => ?_))
  have hI' := iR_fr hI g.2 (by decide)
  have e : pOthI v I = pOth v (μ 35 0) (μ 53 0) (μ 55 0) (μ 39 0) I.m := by
    unfold pOthI
    rw [pOth_cg (fun a ha => ⟨(hI'.kind a ha).symm, (zR_a g.1 ha 0 (by decide)).symm, (zR_a g.1 ha 2 (by decide)).symm, (hI'.comes a ha).symm⟩)]
  have key : ∀ k, k ≤ I.m → ∀ o, kd (d + 7) 131 1 [some (v_r 33 0), some (v_i v), some (v_i (pOth v (μ 35 0) (μ 53 0) (μ 55 0) (μ 39 0) k)), some (v_i (k : Int)), o] [] μ = some (some (v_i (pOthI v I)), μ) := by
    refine loop_up (fun o => ?_) (fun k hk ih o => ?_)
    · rw [ke131_1, hI'.m, if_neg (by omega), e]
    · have hb : 0 ≤ (k : Int) ∧ (k : Int) < 17 := by omega
      have hp : pOth v (μ 35 0) (μ 53 0) (μ 55 0) (μ 39 0) (k + 1) = if pAhead v (μ 35 0 k) then pOth v (μ 35 0) (μ 53 0) (μ 55 0) (μ 39 0) k else if μ 53 0 k = 2 then mj_w (pOth v (μ 35 0) (μ 53 0) (μ 55 0) (μ 39 0) k + pWt (μ 53 0) (μ 55 0) (μ 39 0) k) else pOth v (μ 35 0) (μ 53 0) (μ 55 0) (μ 39 0) k := rfl
      have hz : mj_w (pOth v (μ 35 0) (μ 53 0) (μ 55 0) (μ 39 0) k + 0) = pOth v (μ 35 0) (μ 53 0) (μ 55 0) (μ 39 0) k := by rw [Int.add_zero, mj_w_id (pOth_in _ _ _ _ _ k)]
      have h5 : ∀ o s, (s = 0 ↔ pAhead v (μ 35 0 k)) → kd (d + 7) 131 5 [some (v_r 33 0), some (v_i v), some (v_i (pOth v (μ 35 0) (μ 53 0) (μ 55 0) (μ 39 0) k)), some (v_i (k : Int)), o] [v_i s] μ = some (some (v_i (pOthI v I)), μ) := by
        intro o s hs
        rw [ke131_5, if_pos hb, Int.toNat_natCast, kc113 (d + 6) k μ (by omega), rI_some, wk k hk (by omega), hz]
        by_cases q : pAhead v (μ 35 0 k)
        · rw [if_pos q] at hp
          rw [if_pos (hs.2 q), ← hp]; exact ih _
        · rw [if_neg q] at hp
          rw [if_neg (fun w => q (hs.1 w))]
          by_cases q2 : μ 53 0 k = 2
          · rw [if_pos q2] at hp
            rw [if_pos q2, ← hp]; exact ih _
          · rw [if_neg q2] at hp
            rw [if_neg q2, ← hp]; exact ih _
      have h2 : ∀ o, v ≠ 2 → (v = 1 → μ 35 0 k = 4) → kd (d + 7) 131 2 [some (v_r 33 0), some (v_i v), some (v_i (pOth v (μ 35 0) (μ 53 0) (μ 55 0) (μ 39 0) k)), some (v_i (k : Int)), o] [] μ = some (some (v_i (pOthI v I)), μ) := by
        intro o q q'
        rw [ke131_2, if_pos hb, Int.toNat_natCast]
        by_cases q3 : v = 3
        · rw [if_pos q3]
          by_cases q4 : μ 35 0 k = 3
          · rw [if_pos q4]
            exact h5 _ _ ⟨fun _ => Or.inr ⟨q3, q4⟩, fun _ => rfl⟩
          · rw [if_neg q4]
            exact h5 _ _ ⟨fun w => absurd w n10, fun w => w.elim (fun p => by omega) (fun p => absurd p.2 q4)⟩
        · rw [if_neg q3]
          have v1 : v = 1 := by omega
          exact h5 _ _ ⟨fun _ => Or.inl ⟨v1, q' v1⟩, fun _ => rfl⟩
      rw [ke131_1, hI'.m, if_pos (by omega), if_pos hb, Int.toNat_natCast]
      by_cases q2 : v = 2
      · rw [if_pos q2]
        exact h5 _ _ ⟨fun w => absurd w n10, fun w => w.elim (fun p => by omega) (fun p => by omega)⟩
      rw [if_neg q2]
      by_cases q1 : v = 1
      · rw [if_pos q1]
        by_cases q4 : μ 35 0 k = 4
        · rw [if_pos q4]; exact h2 _ q2 (fun _ => q4)
        · rw [if_neg q4]
          exact h5 _ _ ⟨fun w => absurd w n10, fun w => w.elim (fun p => absurd p.2 q4) (fun p => by omega)⟩
      · rw [if_neg q1]; exact h2 _ q2 (fun w => absurd w q1)
  exact mwI_eq (key 0 (Nat.zero_le _) none) ⟨rfl, hI', g.2⟩
theorem op_pay (d : Nat) (v : Int) {μ ρ : mj_M} (h : Inv μ ρ) : mw2 (kc (d + 20) 22 [v_r 0 0, v_i v] μ) (kc (d + 20) 132 [v_r 33 0, v_i v] ρ) := by
  obtain ⟨I, t, hD, -⟩ := Inv_day h
  obtain ⟨n4, m16, t6, cn, rn, cm, rm⟩ := dAll_n hD
  rw [ke22_0, ke132_0, kc44, kc72, rI_some, rI_some]
  by_cases qw : 1 ≤ v ∧ v ≤ 3
  · have hv : v = 1 ∨ v = 2 ∨ v = 3 := by omega
    have hOk : ∀ x, iOK (uI I 0 0 x) := fun x => iOK_hall_u hD.2.2.1
    rw [b01_t qw, if_neg n10, if_neg n10, hD.2.1.who]
    refine mw2_of (x := mj_w (pOthI v (uI I 0 0 v) - pOthI v (uI I 0 0 0))) h ?_ ?_
    · refine mwI_rV (mwV_mono (tC_plan (d + 17) hD fr_rf) (fun μ1 g1 => ?_))
      have h1 : tC μ (mj_up μ1 1 2 6 v) (uI I 0 0 v) t := tC_set g1.1 (iC_who' g1.1.1) rfl (Or.inr (by decide))
      refine mwI_rV (mwV_mono (tC_live (d + 14) h1 (hOk v) t6) (fun μ2 g2 => ?_))
      rw [othC (d + 17) v (hOk v) g2.1 g2.2.1.1 ((g2.2.1.2.2 1 0 4 rfl).trans cm), rI_some]
      have h2 : tC μ (mj_up μ2 1 2 6 0) (uI I 0 0 0) t := by
        have := tC_set g2.2.1 (iC_who' (x := 0) g2.2.1.1) rfl (Or.inr (by decide))
        rw [uI_uI] at this; exact this
      refine mwI_rV (mwV_mono (tC_live (d + 14) h2 (hOk 0) t6) (fun μ3 g3 => ?_))
      rw [othC (d + 17) v (hOk 0) g3.1 g3.2.1.1 ((g3.2.1.2.2 1 0 4 rfl).trans cm), rI_some]
      exact mwI_ret ⟨rfl, g3.2.1.2.2⟩
    · refine mwI_rI (mwI_mono (othR (d + 11) v hv (hOk v) (iR_who' hD.2.1)) (fun x ρ1 g1 => ?_))
      obtain ⟨rfl, g2, g3⟩ := g1
      have h2 : iR (mj_up ρ1 33 0 2 0) (uI I 0 0 0) t := by
        have := iR_who' (x := 0) g2
        rw [uI_uI] at this; exact this
      refine mwI_rI (mwI_mono (othR (d + 11) v hv (hOk 0) h2) (fun x ρ2 g4 => ?_))
      obtain ⟨rfl, g5, g6⟩ := g4
      refine mwI_ret ⟨rfl, fX_back (P := sR) ?_ hD.2.1.who.symm⟩
      exact fr_tr (fr_tr (fr_tr fX_up (fX_fr (sR_S g3 (by decide)))) fX_up) (fX_fr (sR_S g6 (by decide)))
  · rw [b01_f qw, if_pos rfl, if_pos rfl]; exact mw2_same _ h
/-! door -/
theorem op_door (d : Nat) (v : Int) {μ ρ : mj_M} (h : Inv μ ρ) : mw2 (kc (d + 20) 23 [v_r 0 0, v_i v] μ) (kc (d + 20) 133 [v_r 33 0, v_i v] ρ) := by
  obtain ⟨I, t, hD, -⟩ := Inv_day h
  obtain ⟨n4, m16, t6, cn, rn, cm, rm⟩ := dAll_n hD
  rw [ke23_0, ke133_0, kc44, kc72, rI_some, rI_some]
  by_cases qw : 0 ≤ v ∧ v ≤ 1
  · have hv : v = 0 ∨ v = 1 := by omega
    have hOk : ∀ x y, iOK (uI (uI I 0 3 x) 0 4 y) := fun x y => iOK_hall_u (iOK_hall_u hD.2.2.1)
    rw [b01_t qw, if_neg n10, if_neg n10]
    refine mw2_of (x := mj_w (pHarmI I - pHarmI (uI (uI I 0 3 (b01 (v = 0))) 0 4 (b01 (v = 1))))) h ?_ ?_
    · refine mwI_rV (mwV_mono (tC_is (d + 13) hD fr_rf) (fun μ1 g1 => ?_))
      rw [harmC (d + 16) hD.2.2.1 g1.1 g1.2.1.1, rI_some]
      have fin : ∀ x y, (x = 0 ∨ x = 1) → mwI (mj_rV (kc (d + 19) 57 [v_r 0 0] (mj_up (mj_up μ1 1 2 10 x) 1 2 11 y)) fun m4 => mj_rI (kc (d + 19) 185 [v_r 21 0] m4) fun x5 m6 => some (some (v_i (mj_w (pHarmI I - x5))), m6)) (fun z μ' => z = mj_w (pHarmI I - pHarmI (uI (uI I 0 3 x) 0 4 y)) ∧ fr sC μ μ') := by
        intro x y hx
        have h1 : tC μ (mj_up μ1 1 2 10 x) (uI I 0 3 x) t := tC_set g1.2.1 (iC_quick' g1.2.1.1) rfl (Or.inr (by decide))
        have h2 : tC μ (mj_up (mj_up μ1 1 2 10 x) 1 2 11 y) (uI (uI I 0 3 x) 0 4 y) t := tC_set h1 (iC_right' h1.1) rfl (Or.inr (by decide))
        refine mwI_rV (mwV_mono (tC_live (d + 14) h2 (hOk x y) t6) (fun μ2 g2 => ?_))
        rw [harmC (d + 16) (hOk x y) g2.1 g2.2.1.1, rI_some]
        exact mwI_ret ⟨rfl, g2.2.1.2.2⟩
      rcases hv with rfl | rfl
      · rw [if_pos rfl, ke23_3, if_pos (Or.inr rfl), if_neg (by decide)]
        exact fin 1 0 (Or.inr rfl)
      · rw [if_neg n10, ke23_3, if_pos (Or.inl rfl), if_pos rfl]
        exact fin 0 1 (Or.inl rfl)
    · refine mwI_rI (mwI_mono (harmR (μ := μ) (d + 11) hD.2.2.1 hD.2.1) (fun x ρ1 g1 => ?_))
      obtain ⟨rfl, g2, g3⟩ := g1
      have fin : ∀ x y, mwI (mj_rI (kc (d + 19) 122 [v_r 33 0] (mj_up (mj_up ρ1 33 0 41 x) 33 0 50 y)) fun x1 m2 => some (some (v_i (mj_w (pHarmI I - x1))), mj_up (mj_up m2 33 0 41 0) 33 0 50 0)) (fun z ρ' => z = mj_w (pHarmI I - pHarmI (uI (uI I 0 3 x) 0 4 y)) ∧ fr sR ρ ρ') := by
        intro x y
        refine mwI_rI (mwI_mono (harmR (μ := μ) (d + 11) (hOk x y) (iR_right' (iR_quick' g2))) (fun x ρ2 g4 => ?_))
        obtain ⟨rfl, g5, g6⟩ := g4
        refine mwI_ret ⟨rfl, fX_back (P := sR) (fX_back (P := fX sR 33 0 50) ?_ (hD.2.1.quick.trans hD.2.2.2.2.1).symm) (hD.2.1.right.trans hD.2.2.2.2.2).symm⟩
        exact fr_tr (fr_tr (fr_tr (fX_fr (fX_fr (sR_S g3 (by decide)))) fX_up) (fX_fr fX_up)) (fX_fr (fX_fr (sR_S g6 (by decide))))
      rcases hv with rfl | rfl
      · rw [if_pos rfl, if_neg (by decide), ke133_5, if_pos (Or.inl rfl)]
        exact fin 1 0
      · rw [if_neg n10, if_pos rfl, ke133_5, if_pos (Or.inr rfl)]
        exact fin 0 1
  · rw [b01_f qw, if_pos rfl, if_pos rfl]; exact mw2_same _ h
