/-! best, uneasy -/
def pBadI (I : pI) (a : Nat) : Int := if pLife I 0 a = 2 then pWt (pLife I 0) (pLife I 2) I.comes a else 120
theorem pBad_b {I : pI} (hO : iOK I) {a : Nat} (ha : a < I.m) : pBadI I a < 2147483647 := by
  have := pWt_b hO ha
  unfold rg at this
  unfold pBadI
  split <;> omega
theorem badC (d a : Nat) {μ : mj_M} {I : pI} {t : Nat} (hO : iOK I) (hZ : zC μ I (pLife I)) (hI : iC μ 2 I t) (ha : a < I.m) : kc (d + 2) 179 [v_r 21 0, v_i (a : Int)] μ = some (some (v_i (pBadI I a)), μ) := by
  have hm := hO.m
  have hb : 0 ≤ (a : Int) ∧ (a : Int) < 16 := by omega
  have hz0 : μ 22 0 a = pLife I 0 a := zC_a hZ ha 0 (by decide)
  have hz2 : μ 23 0 a = pLife I 2 a := zC_a hZ ha 2 (by decide)
  have hw : pWt (μ 22 0) (μ 23 0) (μ 5 2) a = pWt (pLife I 0) (pLife I 2) I.comes a := by unfold pWt; rw [hz0, hz2, hI.comes a ha]
  rw [ke179_0, if_pos hb, Int.toNat_natCast, hz0, kc178 d a μ (by omega), rI_some, hw]
  unfold pBadI
  split <;> rfl
theorem badR (d a : Nat) {ρ : mj_M} {I : pI} {t : Nat} (hO : iOK I) (hI : iR ρ I t) (ha : a < I.m) : mwI (kc (d + 8) 135 [v_r 33 0, v_i (a : Int)] ρ) (fun x ρ' => x = pBadI I a ∧ iR ρ' I t ∧ fr (fS dR) ρ ρ') := by
  have hm := hO.m
  have hb : 0 ≤ (a : Int) ∧ (a : Int) < 17 := by omega
  rw [ke135_0]
  refine mwI_rV (mwV_mono (kc112 d I t ρ hO hI) (fun ρ' g => ?_))
  have hI' := iR_fr hI g.2 (by decide)
  have hz0 : ρ' 53 0 a = pLife I 0 a := zR_a g.1 ha 0 (by decide)
  have hz2 : ρ' 55 0 a = pLife I 2 a := zR_a g.1 ha 2 (by decide)
  have hw : pWt (ρ' 53 0) (ρ' 55 0) (ρ' 39 0) a = pWt (pLife I 0) (pLife I 2) I.comes a := by unfold pWt; rw [hz0, hz2, hI'.comes a ha]
  rw [if_pos hb, Int.toNat_natCast, hz0, kc113 (d + 6) a ρ' (by omega), rI_some, hw]
  unfold pBadI
  by_cases q : pLife I 0 a = 2
  · rw [if_pos q, if_pos q]; exact mwI_ret ⟨rfl, hI', g.2⟩
  · rw [if_neg q, if_neg q]; exact mwI_ret ⟨rfl, hI', g.2⟩
def iRc (s k : Nat) : Bool := [34, 35, 36, 37, 38, 39, 41, 42].contains s || (s == 33 && [0, 2, 3, 4, 5, 16, 41, 50].contains k)
theorem iR_at {ρ ρ' : mj_M} {I : pI} {t : Nat} (h : iR ρ I t) (f : ∀ s i k, iRc s k = true → ρ' s i k = ρ s i k) : iR ρ' I t := by
  refine ⟨?_, ?_, ?_, ?_, ?_, ?_, ?_, ?_, ?_, ?_, ?_, ?_, ?_, ?_, ?_, ?_, ?_, ?_⟩
  · rw [f 33 0 0 rfl]; exact h.n
  · rw [f 33 0 5 rfl]; exact h.m
  · rw [f 33 0 2 rfl]; exact h.who
  · rw [f 33 0 3 rfl]; exact h.called
  · rw [f 33 0 4 rfl]; exact h.stop
  · rw [f 33 0 41 rfl]; exact h.quick
  · rw [f 33 0 50 rfl]; exact h.right
  · intro c hc; rw [f 34 0 _ rfl]; exact h.does c hc
  · intro c hc; rw [f 34 0 _ rfl]; exact h.slow c hc
  · intro c hc; rw [f 34 0 _ rfl]; exact h.pause c hc
  · intro a ha; rw [f 35 0 a rfl]; exact h.kind a ha
  · intro a ha; rw [f 36 0 a rfl]; exact h.letter a ha
  · intro a ha; rw [f 37 0 a rfl]; exact h.base a ha
  · intro a ha; rw [f 38 0 a rfl]; exact h.more a ha
  · intro a ha; rw [f 39 0 a rfl]; exact h.comes a ha
  · rw [f 33 0 16 rfl]; exact h.rule
  · exact h.law
  · exact ⟨fun p hp => by rw [f 42 0 _ rfl]; exact h.txt.1 p hp, fun i hi => by rw [f 41 0 _ rfl]; exact h.txt.2 i hi⟩
theorem sR_iRc (s i k : Nat) (h : iRc s k = true) : sR s i k = false := by
  simp [iRc] at h
  simp [sR]
  omega
theorem iR_sR {ρ ρ' : mj_M} {I : pI} {t : Nat} (h : iR ρ I t) (f : fr sR ρ ρ') : iR ρ' I t := iR_at h (fun s i k q => f s i k (sR_iRc s i k q))
theorem iR_51 {ρ : mj_M} {I : pI} {t : Nat} {x : Int} (h : iR ρ I t) : iR (mj_up ρ 33 0 51 x) I t := iR_sR h (fr_up rfl)
theorem dAll_sC {μ μ' ρ : mj_M} {I : pI} {t : Nat} (h : dAll μ ρ I t) (f : fr sC μ μ') : dAll μ' ρ I t := ⟨iC_sC h.1 f, h.2.1, h.2.2.1, by rw [sC_at f (by decide) (Or.inl (by decide))]; exact h.2.2.2.1, h.2.2.2.2⟩
theorem dAll_sR {μ ρ ρ' : mj_M} {I : pI} {t : Nat} (h : dAll μ ρ I t) (f : fr sR ρ ρ') : dAll μ ρ' I t := ⟨h.1, iR_sR h.2.1 f, h.2.2⟩
def wB (k : Nat) : Int := 20 * (k : Int)
def hB (I : pI) (a k : Nat) : Int := pBadI (uI I 4 a (20 * (k : Int))) a
def pBst (I : pI) (a : Nat) : Int × Int := pLe wB (hB I a) 6
theorem wtwenty (k : Nat) (h : k < 100) : mj_w (20 * (k : Int) + 20) = 20 * ((k + 1 : Nat) : Int) := by
  rw [wi (by omega) (by omega)]; omega
theorem kd65 (d : Nat) (μ0 : mj_M) (I : pI) (t a : Nat) (hO : ∀ x, 0 ≤ x ∧ x ≤ 119 → iOK (uI I 4 a x)) (h6 : t < 6) (ha : a < I.m) (h16 : a < 16) :
    ∀ j k (μ1 : mj_M) (y : Int), k + j = 6 → tC μ0 μ1 (uI I 4 a y) t → lC μ1 (pLe wB (hB I a) k) →
      mwV (kd (d + 5) 65 1 [some (v_r 0 0), some (v_i (a : Int)), some (v_i (20 * (k : Int)))] [] μ1) (fun μ' => lC μ' (pBst I a) ∧ fr sC μ0 μ') := by
  intro j
  induction j with
  | zero =>
    intro k μ1 y hk h hl
    have e : k = 6 := by omega
    rw [e] at hl
    rw [ke65_1, if_pos (by omega)]
    exact mwV_ret ⟨hl, h.2.2⟩
  | succ j ih =>
    intro k μ1 y hk h hl
    have hb : 0 ≤ (a : Int) ∧ (a : Int) < 16 := by omega
    have hOk : iOK (uI I 4 a (20 * (k : Int))) := hO _ (by omega)
    have h1 : tC μ0 (mj_up μ1 5 2 a (20 * (k : Int))) (uI I 4 a (20 * (k : Int))) t := by
      have := tC_set h (iC_comes (x := 20 * (k : Int)) (c := a) h.1) rfl (Or.inl (by decide))
      rw [uI_uI] at this; exact this
    rw [ke65_1, if_neg (by omega), if_pos hb, Int.toNat_natCast]
    refine mwV_rV (mwV_mono (tC_live d h1 hOk h6) (fun μ2 g => ?_))
    have ha' : a < (uI I 4 a (20 * (k : Int))).m := ha
    refine mwV_rI (mwI_eq (badC (d + 3) a hOk g.1 g.2.1.1 ha') ?_)
    refine mwV_rV (mwV_mono (kc189 (d + 4) k μ2 wB (hB I a) (lC_fr (lC_up hl (by decide)) g.2.2 rfl)) (fun μ3 q => ?_))
    rw [wtwenty k (by omega)]
    exact ih (k + 1) μ3 _ (by omega) (tC_31 g.2.1 q.2) q.1
theorem kc65 (d : Nat) (μ0 μ1 : mj_M) (I : pI) (t a : Nat) (hO : ∀ x, 0 ≤ x ∧ x ≤ 119 → iOK (uI I 4 a x)) (h6 : t < 6) (ha : a < I.m) (h16 : a < 16) (h : tC μ0 μ1 I t) : mwV (kc (d + 6) 65 [v_r 0 0, v_i (a : Int)] μ1) (fun μ' => lC μ' (pBst I a) ∧ fr sC μ0 μ') := by
  rw [ke65_0]
  refine mwV_rV (mwV_mono (kc188 (d + 4) μ1 wB (hB I a)) (fun μ2 g => ?_))
  exact kd65 d μ0 I t a hO h6 ha h16 6 0 μ2 (I.comes a) (by omega) (by rw [uI_comes0]; exact tC_31 h g.2) g.1
theorem kd136 (d : Nat) (ρ : mj_M) (I : pI) (t a : Nat) (hO : ∀ x, 0 ≤ x ∧ x ≤ 119 → iOK (uI I 4 a x)) (ha : a < I.m) (h16 : a < 17) :
    ∀ j k (ρ1 : mj_M) (y best : Int) o5, k + j = 6 → iR ρ1 (uI I 4 a y) t → fr (fX sR 39 0 a) ρ ρ1 → (k = 0 ∨ (best = (pLe wB (hB I a) k).1 ∧ ρ1 33 0 51 = (pLe wB (hB I a) k).2)) →
      mwI (kd (d + 8) 136 1 [some (v_r 33 0), some (v_i (a : Int)), some (v_i (ρ 39 0 a)), some (v_i best), some (v_i (20 * (k : Int))), o5] [] ρ1) (fun x ρ' => x = (pBst I a).1 ∧ ρ' 33 0 51 = (pBst I a).2 ∧ fr sR ρ ρ') := by
  have hb : 0 ≤ (a : Int) ∧ (a : Int) < 17 := by omega
  intro j
  induction j with
  | zero =>
    intro k ρ1 y best o5 hk hI hf hl
    have e : k = 6 := by omega
    subst e
    obtain ⟨rfl, h2⟩ := hl.resolve_left (by decide)
    rw [ke136_1, if_pos (by omega), if_pos hb, Int.toNat_natCast]
    exact mwI_ret ⟨rfl, by rw [up_ns (by decide)]; exact h2, fX_back hf rfl⟩
  | succ j ih =>
    intro k ρ1 y best o5 hk hI hf hl
    have hOk : iOK (uI I 4 a (20 * (k : Int))) := hO _ (by omega)
    have h1 : iR (mj_up ρ1 39 0 a (20 * (k : Int))) (uI I 4 a (20 * (k : Int))) t := by
      have := iR_comes (x := 20 * (k : Int)) (c := a) hI
      rw [uI_uI] at this; exact this
    have ha' : a < (uI I 4 a (20 * (k : Int))).m := ha
    rw [ke136_1, if_neg (by omega), if_pos hb, Int.toNat_natCast]
    refine mwI_rI (mwI_mono (badR d a hOk h1 ha') (fun x ρ2 g => ?_))
    obtain ⟨rfl, g2, g3⟩ := g
    have hf2 : fr (fX sR 39 0 a) ρ ρ2 := fr_tr (fr_tr hf fX_up) (fX_fr (sR_S g3 (by decide)))
    have hH : pBadI (uI I 4 a (20 * (k : Int))) a = hB I a k := rfl
    have hf3 : ∀ x, fr (fX sR 39 0 a) ρ (mj_up ρ2 33 0 51 x) := fun x => fr_tr hf2 (fX_fr (fr_up rfl))
    rw [hH]
    by_cases k0 : 20 * (k : Int) = 0
    · have : k = 0 := by omega
      subst this
      rw [if_pos k0, ke136_4, if_pos k0, wtwenty 0 (by decide)]
      refine ih 1 _ _ _ _ (by omega) (iR_51 g2) (hf3 _) (Or.inr ?_)
      rw [pLe_1 (by have := pBad_b hOk ha'; rw [hH] at this; omega)]
      exact ⟨rfl, up_eq _ _ _ _ _⟩
    · obtain ⟨rfl, h51⟩ := hl.resolve_left (by omega)
      have h52 : ρ2 33 0 51 = (pLe wB (hB I a) k).2 := by rw [fS_rd g3 rfl, up_ns (by decide)]; exact h51
      rw [if_neg k0, h52]
      by_cases q : hB I a k < (pLe wB (hB I a) k).2
      · rw [if_pos q, ke136_4, if_neg k0, h52, if_pos q, wtwenty k (by omega)]
        exact ih (k + 1) _ _ _ _ (by omega) (iR_51 g2) (hf3 _) (Or.inr (by rw [pLe_y q]; exact ⟨rfl, up_eq _ _ _ _ _⟩))
      · rw [if_neg q, ke136_4, if_neg k0, h52, if_neg q, wtwenty k (by omega)]
        exact ih (k + 1) _ _ _ _ (by omega) (iR_51 g2) (hf3 _) (Or.inr (by rw [pLe_n q]; exact ⟨rfl, up_eq _ _ _ _ _⟩))
theorem kc136 (d : Nat) (ρ : mj_M) (I : pI) (t a : Nat) (hO : ∀ x, 0 ≤ x ∧ x ≤ 119 → iOK (uI I 4 a x)) (ha : a < I.m) (h16 : a < 17) (hI : iR ρ I t) : mwI (kc (d + 9) 136 [v_r 33 0, v_i (a : Int)] ρ) (fun x ρ' => x = (pBst I a).1 ∧ ρ' 33 0 51 = (pBst I a).2 ∧ fr sR ρ ρ') := by
  have hb : 0 ≤ (a : Int) ∧ (a : Int) < 17 := by omega
  rw [ke136_0, if_pos hb, Int.toNat_natCast]
  exact kd136 d ρ I t a hO ha h16 6 0 ρ (I.comes a) 0 none (by omega) (by rw [uI_comes0]; exact hI) fr_rf (Or.inl rfl)
theorem op_best (d : Nat) (a w : Int) {μ ρ : mj_M} (h : Inv μ ρ) : mw2 (kc (d + 20) 25 [v_r 0 0, v_i a, v_i w] μ) (kc (d + 20) 137 [v_r 33 0, v_i a, v_i w] ρ) := by
  obtain ⟨I, t, hD, -⟩ := Inv_day h
  obtain ⟨n4, m16, t6, cn, rn, cm, rm⟩ := dAll_n hD
  rw [ke25_0, ke137_0, kc50 (d + 17) a μ I.m cm (by omega), kc75 (d + 17) a ρ I.m rm (by omega), rI_some, rI_some]
  by_cases q : 0 ≤ a ∧ a < (I.m : Int)
  · rw [b01_t q, if_neg n10, if_neg n10, kc44, kc72, rI_some, rI_some]
    by_cases qw : 0 ≤ w ∧ w ≤ 1
    · obtain ⟨k, rfl⟩ : ∃ k : Nat, a = k := ⟨a.toNat, by omega⟩
      have hk : k < I.m := by omega
      have hOk : ∀ x, 0 ≤ x ∧ x ≤ 119 → iOK (uI I 4 k x) := fun x hx => iOK_comes_u hD.2.2.1 hx
      rw [b01_t qw, if_neg n10, if_neg n10]
      refine mw2_of (x := pPick w (pBst I k)) h ?_ ?_
      · refine mwI_rV (mwV_mono (tC_plan (d + 17) hD fr_rf) (fun μ1 g1 => ?_))
        refine mwI_rV (mwV_mono (kc65 (d + 13) μ μ1 I t k hOk t6 hk (by omega) g1.1) (fun μ2 g2 => ?_))
        rw [kc190 (d + 18) w μ2 _ g2.1, rI_some]
        exact mwI_ret ⟨rfl, g2.2⟩
      · refine mwI_rI (mwI_mono (kc136 (d + 10) ρ I t k hOk hk (by omega) hD.2.1) (fun x ρ1 g => ?_))
        obtain ⟨rfl, g2, g3⟩ := g
        by_cases hw : w = 0
        · rw [if_pos hw]; exact mwI_ret ⟨by unfold pPick; rw [if_pos hw], g3⟩
        · rw [if_neg hw, g2]; exact mwI_ret ⟨by unfold pPick; rw [if_neg hw], g3⟩
    · rw [b01_f qw, if_pos rfl, if_pos rfl]; exact mw2_same _ h
  · rw [b01_f q, if_pos rfl, if_pos rfl]; exact mw2_same _ h
abbrev pMv (I : pI) (a : Nat) : Prop := (pBst I a).2 < pBadI I a
theorem kc66 (d a : Nat) {μ ρ : mj_M} {I : pI} {t : Nat} (hD : dAll μ ρ I t) (ha : a < I.m) : mwI (kc (d + 8) 66 [v_r 0 0, v_i (a : Int)] μ) (fun x μ' => x = b01 (pMv I a) ∧ fr sC μ μ' ∧ lC μ' (pBst I a)) := by
  have hm := hD.2.2.1.m
  rw [ke66_0]
  refine mwI_rV (mwV_mono (tC_is (d + 1) hD fr_rf) (fun μ1 g1 => ?_))
  refine mwI_rI (mwI_eq (badC (d + 5) a hD.2.2.1 g1.1 g1.2.1.1 ha) ?_)
  refine mwI_rV (mwV_mono (kc65 (d + 1) μ μ1 I t a (fun x hx => iOK_comes_u hD.2.2.1 hx) hD.2.1.law ha (by omega) g1.2.1) (fun μ2 g2 => ?_))
  rw [g2.1.2]
  by_cases q : pMv I a
  · rw [if_pos q, b01_t q]; exact mwI_ret ⟨rfl, g2.2, g2.1⟩
  · rw [if_neg q, b01_f q]; exact mwI_ret ⟨rfl, g2.2, g2.1⟩
def pBits (P : Nat → Prop) [∀ k, Decidable (P k)] : Nat → Int
  | 0 => 0
  | k + 1 => if P k then (((pBits P k).toNat ||| (mj_w (1 * 2 ^ k)).toNat : Nat) : Int) else pBits P k
theorem pBits_nn (P : Nat → Prop) [∀ k, Decidable (P k)] : ∀ k, 0 ≤ pBits P k
  | 0 => Int.le_refl _
  | k + 1 => by
    have := pBits_nn P k
    unfold pBits
    split <;> omega
theorem or_0 {x : Int} (h : 0 ≤ x) : ((x.toNat ||| 0 : Nat) : Int) = x := by rw [Nat.or_zero]; omega
theorem kd26 (d : Nat) {μ0 ρ : mj_M} {I : pI} {t : Nat} (hD : dAll μ0 ρ I t) : ∀ j k (μ : mj_M), k + j = I.m → fr sC μ0 μ → mwI (kd (d + 8) 26 1 [some (v_r 0 0), some (v_i (pBits (pMv I) k)), some (v_i (k : Int))] [] μ) (fun x μ' => x = pBits (pMv I) I.m ∧ fr sC μ0 μ') := by
  have hm := hD.2.2.1.m
  intro j
  induction j with
  | zero =>
    intro k μ hk hf
    have e : k = I.m := by omega
    rw [ke26_1, (dAll_sC hD hf).1.m, if_neg (by omega), e]
    exact mwI_ret ⟨rfl, hf⟩
  | succ j ih =>
    intro k μ hk hf
    have hp : pBits (pMv I) (k + 1) = if pMv I k then (((pBits (pMv I) k).toNat ||| (mj_w (1 * 2 ^ k)).toNat : Nat) : Int) else pBits (pMv I) k := rfl
    have hbit := (bit_nn k (by omega)).resolve_right (by omega)
    rw [ke26_1, (dAll_sC hD hf).1.m, if_pos (by omega)]
    refine mwI_rI (mwI_mono (kc66 d k (dAll_sC hD hf) (by omega)) (fun x μ1 g => ?_))
    obtain ⟨rfl, g2, g3⟩ := g
    by_cases q : pMv I k
    · rw [if_pos q] at hp
      rw [b01_t q, if_neg n10, if_pos (by omega), Int.toNat_natCast, if_pos ⟨pBits_nn _ _, hbit⟩, wk k (m := 16) (by omega) (by omega), ← hp]
      exact ih (k + 1) μ1 (by omega) (fr_tr hf g2)
    · rw [if_neg q] at hp
      rw [b01_f q, if_pos rfl, wk k (m := 16) (by omega) (by omega), ← hp]
      exact ih (k + 1) μ1 (by omega) (fr_tr hf g2)
theorem kd138 (d : Nat) {μ ρ0 : mj_M} {I : pI} {t : Nat} (hD : dAll μ ρ0 I t) : ∀ j k (ρ : mj_M) o, k + j = I.m → fr sR ρ0 ρ → mwI (kd (d + 9) 138 1 [some (v_r 33 0), some (v_i (pBits (pMv I) k)), some (v_i (k : Int)), o] [] ρ) (fun x ρ' => x = pBits (pMv I) I.m ∧ fr sR ρ0 ρ') := by
  have hm := hD.2.2.1.m
  intro j
  induction j with
  | zero =>
    intro k ρ o hk hf
    have e : k = I.m := by omega
    rw [ke138_1, (iR_sR hD.2.1 hf).m, if_neg (by omega), e]
    exact mwI_ret ⟨rfl, hf⟩
  | succ j ih =>
    intro k ρ o hk hf
    have hp : pBits (pMv I) (k + 1) = if pMv I k then (((pBits (pMv I) k).toNat ||| (mj_w (1 * 2 ^ k)).toNat : Nat) : Int) else pBits (pMv I) k := rfl
    have hbit := (bit_nn k (by omega)).resolve_right (by omega)
    rw [ke138_1, (iR_sR hD.2.1 hf).m, if_pos (by omega)]
    refine mwI_rI (mwI_mono (kc136 d ρ I t k (fun x hx => iOK_comes_u hD.2.2.1 hx) (by omega) (by omega) (iR_sR hD.2.1 hf)) (fun x ρ1 g => ?_))
    obtain ⟨rfl, g2, g3⟩ := g
    have hf1 := fr_tr hf g3
    refine mwI_rI (mwI_mono (badR (d + 1) k hD.2.2.1 (iR_sR hD.2.1 hf1) (by omega)) (fun x ρ2 g => ?_))
    obtain ⟨rfl, g4, g5⟩ := g
    have hf2 := fr_tr hf1 (sR_S g5 (by decide))
    rw [g2]
    by_cases q : pMv I k
    · rw [if_pos q] at hp
      rw [if_pos q, if_pos (by omega), Int.toNat_natCast, if_pos ⟨pBits_nn _ _, hbit⟩, wk k (m := 16) (by omega) (by omega), ← hp]
      exact ih (k + 1) ρ2 _ (by omega) hf2
    · rw [if_neg q] at hp
      rw [if_neg q, if_pos ⟨pBits_nn _ _, Int.le_refl _⟩, or_0 (pBits_nn _ _), wk k (m := 16) (by omega) (by omega), ← hp]
      exact ih (k + 1) ρ2 _ (by omega) hf2
theorem op_uneasy (d : Nat) {μ ρ : mj_M} (h : Inv μ ρ) : mw2 (kc (d + 20) 26 [v_r 0 0] μ) (kc (d + 20) 138 [v_r 33 0] ρ) := by
  obtain ⟨I, t, hD, -⟩ := Inv_day h
  rw [ke26_0, ke138_0]
  exact mw2_of (x := pBits (pMv I) I.m) h (kd26 (d + 11) hD I.m 0 μ (by omega) fr_rf) (kd138 (d + 10) hD I.m 0 ρ _ (by omega) fr_rf)
