/-! calls that only ask for the day -/
theorem dAll_n {μ ρ : mj_M} {I : pI} {t : Nat} (h : dAll μ ρ I t) : I.n ≤ 4 ∧ I.m ≤ 16 ∧ t < 6 ∧ μ 1 0 0 = (I.n : Int) ∧ ρ 33 0 0 = (I.n : Int) ∧ μ 1 0 4 = (I.m : Int) ∧ ρ 33 0 5 = (I.m : Int) := ⟨h.2.2.1.n, h.2.2.1.m, h.2.1.law, h.1.n, h.2.1.n, h.1.m, h.2.1.m⟩
theorem liveC (d : Nat) {μ ρ : mj_M} {I : pI} {t : Nat} (h : dAll μ ρ I t) : mwV (kc (d + 6) 58 [v_r 0 0] μ) (fun μ' => zC μ' I (pLife I) ∧ iC μ' 2 I t ∧ fr sC μ μ') :=
  mwV_mono (kc58 d μ I t h.1 h.2.2.1 h.2.2.2.1 h.2.1.law (Or.inl h.2.2.2.2.1) (Or.inl h.2.2.2.2.2)) (fun _ g => ⟨g.1, g.2.1, g.2.2.2.2⟩)
theorem liveR (d : Nat) {μ ρ : mj_M} {I : pI} {t : Nat} (h : dAll μ ρ I t) : mwV (kc (d + 7) 112 [v_r 33 0] ρ) (fun ρ' => zR ρ' I (pLife I) ∧ iR ρ' I t ∧ fr sR ρ ρ') :=
  mwV_mono (kc112 d I t ρ h.2.2.1 h.2.1) (fun _ g => ⟨g.1, iR_fr h.2.1 g.2 (by decide), sR_S g.2 (by decide)⟩)
theorem op_idle (d : Nat) (c : Int) {μ ρ : mj_M} (h : Inv μ ρ) : mw2 (kc (d + 20) 15 [v_r 0 0, v_i c] μ) (kc (d + 20) 121 [v_r 33 0, v_i c] ρ) := by
  obtain ⟨I, t, hD, -⟩ := Inv_day h
  obtain ⟨n4, m16, t6, cn, rn, cm, rm⟩ := dAll_n hD
  rw [ke15_0, ke121_0, kc49 (d + 17) c μ I.n cn (by omega), kc74 (d + 17) c ρ I.n rn (by omega), rI_some, rI_some]
  by_cases q : 0 ≤ c ∧ c < (I.n : Int)
  · rw [b01_t q, if_neg (by decide), if_neg (by decide)]
    obtain ⟨k, rfl⟩ : ∃ k : Nat, c = k := ⟨c.toNat, by omega⟩
    refine mw2_of (x := pLife I 7 k) h (mwI_rV (mwV_mono (liveC (d + 13) hD) (fun μ' g => ?_))) (mwI_rV (mwV_mono (liveR (d + 12) hD) (fun ρ' g => ?_)))
    · rw [if_pos (by omega), Int.toNat_natCast]; exact mwI_ret ⟨zC_c g.1 (by omega) 7 (by decide) (by decide), g.2.2⟩
    · rw [if_pos (by omega), Int.toNat_natCast]; exact mwI_ret ⟨zR_c g.1 (by omega) 7 (by decide) (by decide), g.2.2⟩
  · rw [b01_f q, if_pos rfl, if_pos rfl]
    exact mw2_of h (mwI_ret ⟨rfl, fr_rf⟩) (mwI_ret ⟨rfl, fr_rf⟩)
/-- sums of a life -/
theorem pTot_cg {f f' b b' e e' c c' : Nat → Int} {m : Nat} {i w : Int} (h : ∀ a, a < m → f a = f' a ∧ b a = b' a ∧ e a = e' a ∧ c a = c' a) : pTot f b e c m i w = pTot f' b' e' c' m i w := by
  unfold pTot
  have h1 : ∀ v, pMany f v m = pMany f' v m := fun v => pMany_cg (fun a ha => (h a ha).1)
  have h2 : pAll f b c m = pAll f' b' c' m := pAll_cg (fun a ha => ⟨(h a ha).1, (h a ha).2.1, (h a ha).2.2.2⟩)
  have h3 : pMax (pWt f b c) m = pMax (pWt f' b' c') m := pMax_cg (fun a ha => by unfold pWt; rw [(h a ha).1, (h a ha).2.1, (h a ha).2.2.2])
  have h4 : pMax e m = pMax e' m := pMax_cg (fun a ha => (h a ha).2.2.1)
  rw [h1, h1, h1, h1, h2, h3, h4]
theorem pHarm_cg {f f' b b' c c' : Nat → Int} {m : Nat} (h : ∀ a, a < m → f a = f' a ∧ b a = b' a ∧ c a = c' a) : pHarm f b c m = pHarm f' b' c' m := by
  unfold pHarm
  rw [pMany_cg (fun a ha => (h a ha).1), pAll_cg h]
/-- the idle of a counter that is none -/
def zI (I : pI) (Z : pZ) : Prop := ∀ c, mj_n32 (Z 7 c) ∧ (I.n ≤ c → Z 7 c = 0)
theorem zI_call {I : pI} {Z : pZ} {c a : Nat} {t : Int} (h : zI I Z) : zI I (pCall I c a t Z) := by
  intro k
  have e : pCall I c a t Z 7 k = Z 7 k := by
    unfold pCall
    split
    · split
      · simp [zU]
      · simp [zU]
    · simp [zU]
  rw [e]; exact h k
theorem zI_counters {I : pI} {Z : pZ} {t : Int} (h : zI I Z) : ∀ c, c ≤ I.n → zI I (pCounters I t c Z)
  | 0, _ => h
  | c + 1, hc => by
    have ih := zI_counters (t := t) h c (by omega)
    show zI I (pCounter I t c (pCounters I t c Z))
    unfold pCounter
    split
    · exact ih
    split
    · exact ih
    split
    · intro k
      unfold zU
      split
      · rename_i e
        exact ⟨mj_w_in _, fun q => by omega⟩
      · exact ih k
    · exact zI_call ih
theorem zI_day (I : pI) : ∀ t, zI I (pDay I t)
  | 0 => fun k => ⟨mj_n0, fun _ => rfl⟩
  | t + 1 => zI_counters (show zI I (pComes I (t : Int) (pDay I t)) from fun k => by
      have := zI_day I t k
      unfold pComes
      rw [if_neg (by omega)]
      exact this) I.n (Nat.le_refl _)
theorem idle_sum {I : pI} {Z : pZ} (h : zI I Z) (hn : I.n ≤ 4) : pSum (Z 7) I.n = mj_w (mj_w (mj_w (Z 7 0 + Z 7 1) + Z 7 2) + Z 7 3) := by
  have h0 := mj_w_id (h 0).1; have h1 := mj_w_id (h 1).1; have h2 := mj_w_id (h 2).1; have h3 := mj_w_id (h 3).1
  have z : ∀ c, I.n ≤ c → Z 7 c = 0 := fun c => (h c).2
  have w0 : mj_w 0 = 0 := by decide
  have e : I.n = 0 ∨ I.n = 1 ∨ I.n = 2 ∨ I.n = 3 ∨ I.n = 4 := by omega
  rcases e with e | e | e | e | e
  · rw [e, z 0 (by omega), z 1 (by omega), z 2 (by omega), z 3 (by omega)]; rfl
  · rw [e, z 1 (by omega), z 2 (by omega), z 3 (by omega)]; simp only [pSum, Int.zero_add, Int.add_zero, h0]
  · rw [e, z 2 (by omega), z 3 (by omega)]; simp only [pSum, Int.zero_add, Int.add_zero, h0, mj_w_id (mj_w_in _)]
  · rw [e, z 3 (by omega)]; simp only [pSum, Int.zero_add, Int.add_zero, h0, mj_w_id (mj_w_in _)]
  · rw [e]; simp only [pSum, Int.zero_add, h0]
def pTotI (I : pI) (w : Int) : Int := pTot (pLife I 0) (pLife I 2) (pLife I 3) I.comes I.m (pSum (pLife I 7) I.n) w
def pHarmI (I : pI) : Int := pHarm (pLife I 0) (pLife I 2) I.comes I.m
theorem pSum_cg {f g : Nat → Int} : ∀ {k : Nat}, (∀ a, a < k → f a = g a) → pSum f k = pSum g k
  | 0, _ => rfl
  | k + 1, h => by
    unfold pSum
    rw [h k (Nat.lt_succ_self k), pSum_cg (fun a ha => h a (Nat.lt_succ_of_lt ha))]
theorem harmC (d : Nat) {μ : mj_M} {I : pI} {t : Nat} (hO : iOK I) (hZ : zC μ I (pLife I)) (hI : iC μ 2 I t) : kc (d + 3) 185 [v_r 21 0] μ = some (some (v_i (pHarmI I)), μ) := by
  rw [kc185 d μ hI.m hO.m]
  unfold pHarmI
  rw [pHarm_cg (f := μ 22 0) (b := μ 23 0) (fun a ha => ⟨zC_a hZ ha 0 (by decide), zC_a hZ ha 2 (by decide), hI.comes a ha⟩)]
theorem harmR (d : Nat) {μ ρ : mj_M} {I : pI} {t : Nat} (h : iOK I) (hI : iR ρ I t) : mwI (kc (d + 8) 122 [v_r 33 0] ρ) (fun x ρ' => x = pHarmI I ∧ iR ρ' I t ∧ fr (fS dR) ρ ρ') := by
  have hm := h.m
  rw [ke122_0]
  refine mwI_rV (mwV_mono (kc112 d I t ρ h hI) (fun ρ' g => ?_))
  have hI' := iR_fr hI g.2 (by decide)
  rw [kc118 (d + 5) ρ' hI'.m (by omega), rI_some, kc115 (d + 6) 2 ρ' hI'.m (by omega), rI_some, hI'.m]
  refine mwI_ret ⟨?_, hI', g.2⟩
  unfold pHarmI
  rw [pHarm_cg (f' := ρ' 53 0) (b' := ρ' 55 0) (c' := ρ' 39 0) (fun a ha => ⟨(zR_a g.1 ha 0 (by decide)).symm, (zR_a g.1 ha 2 (by decide)).symm, (hI'.comes a ha).symm⟩)]
  rfl
theorem op_harmed (d : Nat) {μ ρ : mj_M} (h : Inv μ ρ) : mw2 (kc (d + 20) 16 [v_r 0 0] μ) (kc (d + 20) 123 [v_r 33 0] ρ) := by
  obtain ⟨I, t, hD, -⟩ := Inv_day h
  refine mw2_of (x := pHarmI I) h ?_ ?_
  · rw [ke16_0]
    refine mwI_rV (mwV_mono (liveC (d + 13) hD) (fun μ' g => ?_))
    rw [harmC (d + 16) hD.2.2.1 g.1 g.2.1, rI_some]
    exact mwI_ret ⟨rfl, g.2.2⟩
  · rw [ke123_0]
    refine mwI_rI (mwI_mono (harmR (μ := μ) (d + 11) hD.2.2.1 hD.2.1) (fun x ρ' g => ?_))
    exact mwI_ret ⟨g.1, sR_S g.2.2 (by decide)⟩
theorem op_sum (d : Nat) (w : Int) {μ ρ : mj_M} (h : Inv μ ρ) : mw2 (kc (d + 20) 14 [v_r 0 0, v_i w] μ) (kc (d + 20) 120 [v_r 33 0, v_i w] ρ) := by
  obtain ⟨I, t, hD, -⟩ := Inv_day h
  obtain ⟨n4, m16, t6, cn, rn, cm, rm⟩ := dAll_n hD
  rw [ke14_0, ke120_0, kc44, kc72, rI_some, rI_some]
  by_cases q : 0 ≤ w ∧ w ≤ 7
  · rw [b01_t q, if_neg (by decide), if_neg (by decide)]
    refine mw2_of (x := pTotI I w) h (mwI_rV (mwV_mono (liveC (d + 13) hD) (fun μ' g => ?_))) (mwI_rV (mwV_mono (liveR (d + 12) hD) (fun ρ' g => ?_)))
    · obtain ⟨g1, g2, g3⟩ := g
      rw [kc187 (d + 16) w μ' g2.m m16 g2.n n4, rI_some]
      refine mwI_ret ⟨?_, g3⟩
      unfold pTotI
      rw [pTot_cg (f := μ' 22 0) (b := μ' 23 0) (e := μ' 24 0) (fun a ha => ⟨zC_a g1 ha 0 (by decide), zC_a g1 ha 2 (by decide), zC_a g1 ha 3 (by decide), g2.comes a ha⟩), show pSum (μ' 27 0) I.n = pSum (pLife I 7) I.n from pSum_cg (fun c hc => zC_c g1 hc 7 (by decide) (by decide))]
    · obtain ⟨g1, g2, g3⟩ := g
      rw [kc119 (d + 16) w ρ' g2.m (by omega), rI_some]
      refine mwI_ret ⟨?_, g3⟩
      have hz : ∀ c, c < 4 → ρ' 60 0 c = pLife I 7 c := fun c hc => zR_c g1 hc 7 (by decide) (by decide)
      unfold pTotI
      rw [hz 0 (by decide), hz 1 (by decide), hz 2 (by decide), hz 3 (by decide), ← idle_sum (show zI I (pLife I) from zI_day I 240) n4]
      exact pTot_cg (fun a ha => ⟨zR_a g1 ha 0 (by decide), zR_a g1 ha 2 (by decide), zR_a g1 ha 3 (by decide), g2.comes a ha⟩)
  · rw [b01_f q, if_pos rfl, if_pos rfl]
    exact mw2_of h (mwI_ret ⟨rfl, fr_rf⟩) (mwI_ret ⟨rfl, fr_rf⟩)
theorem op_of (d : Nat) (a w : Int) {μ ρ : mj_M} (h : Inv μ ρ) : mw2 (kc (d + 20) 13 [v_r 0 0, v_i a, v_i w] μ) (kc (d + 20) 114 [v_r 33 0, v_i a, v_i w] ρ) := by
  obtain ⟨I, t, hD, -⟩ := Inv_day h
  obtain ⟨n4, m16, t6, cn, rn, cm, rm⟩ := dAll_n hD
  rw [ke13_0, ke114_0, kc50 (d + 17) a μ I.m cm (by omega), kc75 (d + 17) a ρ I.m rm (by omega), rI_some, rI_some]
  by_cases q : 0 ≤ a ∧ a < (I.m : Int)
  · rw [b01_t q, if_neg (by decide), if_neg (by decide), kc44, kc72, rI_some, rI_some]
    by_cases qw : 0 ≤ w ∧ w ≤ 5
    · rw [b01_t qw, if_neg (by decide), if_neg (by decide)]
      obtain ⟨k, rfl⟩ : ∃ k : Nat, a = k := ⟨a.toNat, by omega⟩
      have hk : k < I.m := by omega
      have hb16 : 0 ≤ (k : Int) ∧ (k : Int) < 16 := by omega
      have hb17 : 0 ≤ (k : Int) ∧ (k : Int) < 17 := by omega
      refine mw2_of (x := if w = 0 then pLife I 0 k else if w = 1 then pLife I 2 k else if w = 2 then pLife I 3 k else if w = 3 then pLife I 4 k else if w = 4 then pWt (pLife I 0) (pLife I 2) I.comes k else pLife I 5 k) h (mwI_rV (mwV_mono (liveC (d + 13) hD) (fun μ' g => ?_))) (mwI_rV (mwV_mono (liveR (d + 12) hD) (fun ρ' g => ?_)))
      · obtain ⟨g1, g2, g3⟩ := g
        have hz : ∀ r, r < 6 → μ' (cS r) 0 k = pLife I r k := fun r hr => zC_a g1 hk r hr
        rw [if_pos hb16, if_pos hb16, if_pos hb16, if_pos hb16, if_pos hb16, kc178 (d + 18) k μ' (by omega), rI_some, Int.toNat_natCast]
        have hw4 : pWt (μ' 22 0) (μ' 23 0) (μ' 5 2) k = pWt (pLife I 0) (pLife I 2) I.comes k := by
          unfold pWt; rw [show μ' 22 0 k = _ from hz 0 (by decide), show μ' 23 0 k = _ from hz 2 (by decide), g2.comes k hk]
        rw [hw4, show μ' 22 0 k = _ from hz 0 (by decide), show μ' 23 0 k = _ from hz 2 (by decide), show μ' 24 0 k = _ from hz 3 (by decide), show μ' 25 0 k = _ from hz 4 (by decide), show μ' 26 0 k = _ from hz 5 (by decide)]
        repeat' split
        all_goals exact mwI_ret ⟨rfl, g3⟩
      · obtain ⟨g1, g2, g3⟩ := g
        have hz : ∀ r, r < 6 → ρ' (53 + r) 0 k = pLife I r k := fun r hr => zR_a g1 hk r hr
        rw [if_pos hb17, if_pos hb17, if_pos hb17, if_pos hb17, if_pos hb17, kc113 (d + 18) k ρ' (by omega), rI_some, Int.toNat_natCast]
        have hw4 : pWt (ρ' 53 0) (ρ' 55 0) (ρ' 39 0) k = pWt (pLife I 0) (pLife I 2) I.comes k := by
          unfold pWt; rw [show ρ' 53 0 k = _ from hz 0 (by decide), show ρ' 55 0 k = _ from hz 2 (by decide), g2.comes k hk]
        rw [hw4, show ρ' 53 0 k = _ from hz 0 (by decide), show ρ' 55 0 k = _ from hz 2 (by decide), show ρ' 56 0 k = _ from hz 3 (by decide), show ρ' 57 0 k = _ from hz 4 (by decide), show ρ' 58 0 k = _ from hz 5 (by decide)]
        repeat' split
        all_goals exact mwI_ret ⟨rfl, g3⟩
    · rw [b01_f qw, if_pos rfl, if_pos rfl]
      exact mw2_of h (mwI_ret ⟨rfl, fr_rf⟩) (mwI_ret ⟨rfl, fr_rf⟩)
  · rw [b01_f q, if_pos rfl, if_pos rfl]
    exact mw2_of h (mwI_ret ⟨rfl, fr_rf⟩) (mwI_ret ⟨rfl, fr_rf⟩)
