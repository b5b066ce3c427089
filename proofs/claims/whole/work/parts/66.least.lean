/-! rest, call, letter: the least harm -/
def wR (k : Nat) : Int := 10 * (k : Int)
def hR0 (I : pI) (c : Nat) (k : Nat) : Int := pHarmI (uI I 3 c (10 * (k : Int)))
def pPick (w : Int) (p : Int × Int) : Int := if w = 0 then p.1 else p.2
theorem wten (k : Nat) (h : k < 100) : mj_w (10 * (k : Int) + 10) = 10 * ((k + 1 : Nat) : Int) := by
  rw [wi (by omega) (by omega)]; omega
theorem kd19 (d : Nat) (w : Int) (μ0 : mj_M) (I : pI) (t c : Nat) (hO : iOK I) (h6 : t < 6) (hc : c < I.n) :
    ∀ j k (μ1 : mj_M) (y : Int), k + j = 12 → tC μ0 μ1 (uI I 3 c y) t → lC μ1 (pLe wR (hR0 I c) k) →
      mwI (kd (d + 5) 19 3 [some (v_r 0 0), some (v_i (c : Int)), some (v_i w), some (v_i (10 * (k : Int)))] [] μ1) (fun x μ' => x = pPick w (pLe wR (hR0 I c) 12) ∧ fr sC μ0 μ') := by
  have hn := hO.n
  intro j
  induction j with
  | zero =>
    intro k μ1 y hk h hl
    have e : k = 12 := by omega
    rw [e] at hl
    rw [ke19_3, if_pos (by omega), kc190 (d + 4) w μ1 _ hl, rI_some]
    exact mwI_ret ⟨rfl, h.2.2⟩
  | succ j ih =>
    intro k μ1 y hk h hl
    have hb : 0 ≤ (c : Int) ∧ (c : Int) < 4 := by omega
    have hOk : iOK (uI I 3 c (10 * (k : Int))) := iOK_pause_u hO (by omega)
    have h1 : tC μ0 (mj_up μ1 4 2 c (10 * (k : Int))) (uI I 3 c (10 * (k : Int))) t := by
      have := tC_set h (iC_pause (x := 10 * (k : Int)) (c := c) h.1) rfl (Or.inl (by decide))
      rw [uI_uI] at this; exact this
    rw [ke19_3, if_neg (by omega), if_pos hb, Int.toNat_natCast]
    refine mwI_rV (mwV_mono (tC_live d h1 hOk h6) (fun μ2 g => ?_))
    rw [harmC (d + 2) hOk g.1 g.2.1.1, rI_some]
    refine mwI_rV (mwV_mono (kc189 (d + 4) k μ2 wR (hR0 I c) (lC_fr (lC_up hl (by decide)) g.2.2 rfl)) (fun μ3 q => ?_))
    rw [wten k (by omega)]
    exact ih (k + 1) μ3 _ (by omega) (tC_31 g.2.1 q.2) q.1
theorem kd128 (d : Nat) (w : Int) (ρ : mj_M) (I : pI) (t c : Nat) (hO : iOK I) (hI0 : iR ρ I t) (hc : c < I.n) :
    ∀ j k (ρ1 : mj_M) (y best low : Int) o7, k + j = 12 → iR ρ1 (uI I 3 c y) t → fr (fX sR 34 0 (3 * c + 2)) ρ ρ1 → (k = 0 ∨ (best = (pLe wR (hR0 I c) k).1 ∧ low = (pLe wR (hR0 I c) k).2)) →
      mwI (kd (d + 8) 128 3 [some (v_r 33 0), some (v_i (c : Int)), some (v_i w), some (v_i (I.pause c)), some (v_i best), some (v_i low), some (v_i (10 * (k : Int))), o7] [] ρ1) (fun x ρ' => x = pPick w (pLe wR (hR0 I c) 12) ∧ fr sR ρ ρ') := by
  have hn := hO.n
  obtain ⟨⟨e1, -, e3, -, -⟩, -, -, -, hb⟩ := w3 c (by omega)
  intro j
  induction j with
  | zero =>
    intro k ρ1 y best low o7 hk hI hf hl
    have e : k = 12 := by omega
    subst e
    obtain ⟨rfl, rfl⟩ := hl.resolve_left (by decide)
    rw [ke128_3, if_pos (by omega), e1, e3, if_pos hb, Int.toNat_natCast]
    have hfin : fr sR ρ (mj_up ρ1 34 0 (3 * c + 2) (I.pause c)) := fX_back hf (hI0.pause c hc).symm
    by_cases hw : w = 0
    · rw [if_pos hw]; exact mwI_ret ⟨by unfold pPick; rw [if_pos hw], hfin⟩
    · rw [if_neg hw]; exact mwI_ret ⟨by unfold pPick; rw [if_neg hw], hfin⟩
  | succ j ih =>
    intro k ρ1 y best low o7 hk hI hf hl
    have hOk : iOK (uI I 3 c (10 * (k : Int))) := iOK_pause_u hO (by omega)
    have h1 : iR (mj_up ρ1 34 0 (3 * c + 2) (10 * (k : Int))) (uI I 3 c (10 * (k : Int))) t := by
      have := iR_pause (x := 10 * (k : Int)) (c := c) hI
      rw [uI_uI] at this; exact this
    rw [ke128_3, if_neg (by omega), e1, e3, if_pos hb, Int.toNat_natCast]
    refine mwI_rI (mwI_mono (harmR (μ := ρ) d hOk h1) (fun x ρ2 g => ?_))
    obtain ⟨rfl, g2, g3⟩ := g
    have hf2 : fr (fX sR 34 0 (3 * c + 2)) ρ ρ2 := fr_tr (fr_tr hf fX_up) (fX_fr (sR_S g3 (by decide)))
    have hH : pHarmI (uI I 3 c (10 * (k : Int))) = hR0 I c k := rfl
    rw [hH]
    by_cases k0 : 10 * (k : Int) = 0
    · have : k = 0 := by omega
      subst this
      rw [if_pos k0, ke128_6, if_pos k0, wten 0 (by decide)]
      refine ih 1 ρ2 _ _ _ _ (by omega) g2 hf2 (Or.inr ?_)
      rw [pLe_1 (by have := pHarm_b hOk; unfold rg at this; rw [hH] at this; omega)]
      exact ⟨rfl, rfl⟩
    · obtain ⟨rfl, rfl⟩ := hl.resolve_left (by omega)
      rw [if_neg k0]
      by_cases q : hR0 I c k < (pLe wR (hR0 I c) k).2
      · rw [if_pos q, ke128_6, if_neg k0, if_pos q, wten k (by omega)]
        exact ih (k + 1) ρ2 _ _ _ _ (by omega) g2 hf2 (Or.inr (by rw [pLe_y q]; exact ⟨rfl, rfl⟩))
      · rw [if_neg q, ke128_6, if_neg k0, if_neg q, wten k (by omega)]
        exact ih (k + 1) ρ2 _ _ _ _ (by omega) g2 hf2 (Or.inr (by rw [pLe_n q]; exact ⟨rfl, rfl⟩))
theorem op_rest (d : Nat) (c w : Int) {μ ρ : mj_M} (h : Inv μ ρ) : mw2 (kc (d + 20) 19 [v_r 0 0, v_i c, v_i w] μ) (kc (d + 20) 128 [v_r 33 0, v_i c, v_i w] ρ) := by
  obtain ⟨I, t, hD, -⟩ := Inv_day h
  obtain ⟨n4, m16, t6, cn, rn, cm, rm⟩ := dAll_n hD
  rw [ke19_0, ke128_0, kc49 (d + 17) c μ I.n cn (by omega), kc74 (d + 17) c ρ I.n rn (by omega), rI_some, rI_some]
  by_cases q : 0 ≤ c ∧ c < (I.n : Int)
  · rw [b01_t q, if_neg n10, if_neg n10, kc44, kc72, rI_some, rI_some]
    by_cases qw : 0 ≤ w ∧ w ≤ 1
    · obtain ⟨k, rfl⟩ : ∃ k : Nat, c = k := ⟨c.toNat, by omega⟩
      have hk : k < I.n := by omega
      obtain ⟨⟨e1, -, e3, -, -⟩, -, -, -, hb⟩ := w3 k (by omega)
      rw [b01_t qw, if_neg n10, if_neg n10, e1, e3, if_pos hb, Int.toNat_natCast, hD.2.1.pause k hk]
      refine mw2_of (x := pPick w (pLe wR (hR0 I k) 12)) h ?_ ?_
      · refine mwI_rV (mwV_mono (kc188 (d + 18) μ wR (hR0 I k)) (fun μ1 g => ?_))
        refine mwI_rV (mwV_mono (tC_plan (d + 17) hD g.2) (fun μ2 g2 => ?_))
        refine kd19 (d + 14) w μ I t k hD.2.2.1 t6 hk 12 0 μ2 (I.pause k) (by omega) ?_ ⟨by rw [frP_ns g2.2 rfl]; exact g.1.1, by rw [frP_ns g2.2 rfl]; exact g.1.2⟩
        rw [uI_pause0]; exact g2.1
      · refine kd128 (d + 11) w ρ I t k hD.2.2.1 hD.2.1 hk 12 0 ρ (I.pause k) 0 0 _ (by omega) ?_ fr_rf (Or.inl rfl)
        rw [uI_pause0]; exact hD.2.1
    · rw [b01_f qw, if_pos rfl, if_pos rfl]; exact mw2_same _ h
  · rw [b01_f q, if_pos rfl, if_pos rfl]; exact mw2_same _ h
/-! call -/
def w1 (k : Nat) : Int := (k : Int) + 1
def hC1 (I : pI) (k : Nat) : Int := pHarmI (uI I 0 1 ((k : Int) + 1))
theorem wone (k : Nat) (h : k < 100) : mj_w ((k : Int) + 1 + 1) = ((k + 1 : Nat) : Int) + 1 := by
  rw [wi (by omega) (by omega)]; omega
theorem kd21 (d : Nat) (w : Int) (μ0 : mj_M) (I : pI) (t : Nat) (hO : iOK I) (h6 : t < 6) :
    ∀ j k (μ1 : mj_M) (y : Int), k + j = 9 → tC μ0 μ1 (uI I 0 1 y) t → lC μ1 (pLe w1 (hC1 I) k) →
      mwI (kd (d + 5) 21 2 [some (v_r 0 0), some (v_i w), some (v_i ((k : Int) + 1))] [] μ1) (fun x μ' => x = pPick w (pLe w1 (hC1 I) 9) ∧ fr sC μ0 μ') := by
  intro j
  induction j with
  | zero =>
    intro k μ1 y hk h hl
    have e : k = 9 := by omega
    rw [e] at hl
    rw [ke21_2, if_pos (by omega), kc190 (d + 4) w μ1 _ hl, rI_some]
    exact mwI_ret ⟨rfl, h.2.2⟩
  | succ j ih =>
    intro k μ1 y hk h hl
    have hOk : iOK (uI I 0 1 ((k : Int) + 1)) := iOK_hall_u hO
    have h1 : tC μ0 (mj_up μ1 1 2 7 ((k : Int) + 1)) (uI I 0 1 ((k : Int) + 1)) t := by
      have := tC_set h (iC_called' (x := (k : Int) + 1) h.1) rfl (Or.inr (by decide))
      rw [uI_uI] at this; exact this
    rw [ke21_2, if_neg (by omega)]
    refine mwI_rV (mwV_mono (tC_live d h1 hOk h6) (fun μ2 g => ?_))
    rw [harmC (d + 2) hOk g.1 g.2.1.1, rI_some]
    refine mwI_rV (mwV_mono (kc189 (d + 4) k μ2 w1 (hC1 I) (lC_fr (lC_up hl (by decide)) g.2.2 rfl)) (fun μ3 q => ?_))
    rw [wone k (by omega)]
    exact ih (k + 1) μ3 _ (by omega) (tC_31 g.2.1 q.2) q.1
theorem kd130 (d : Nat) (w : Int) (ρ : mj_M) (I : pI) (t : Nat) (hO : iOK I) (hI0 : iR ρ I t) :
    ∀ j k (ρ1 : mj_M) (y best low : Int) o7, k + j = 9 → iR ρ1 (uI I 0 1 y) t → fr (fX sR 33 0 3) ρ ρ1 → (k = 0 ∨ (best = (pLe w1 (hC1 I) k).1 ∧ low = (pLe w1 (hC1 I) k).2)) →
      mwI (kd (d + 8) 130 2 [some (v_r 33 0), some (v_i w), some (v_i I.called), some (v_i best), some (v_i low), some (v_i ((k : Int) + 1)), o7] [] ρ1) (fun x ρ' => x = pPick w (pLe w1 (hC1 I) 9) ∧ fr sR ρ ρ') := by
  intro j
  induction j with
  | zero =>
    intro k ρ1 y best low o7 hk hI hf hl
    have e : k = 9 := by omega
    subst e
    obtain ⟨rfl, rfl⟩ := hl.resolve_left (by decide)
    rw [ke130_2, if_pos (by omega)]
    have hfin : fr sR ρ (mj_up ρ1 33 0 3 I.called) := fX_back hf hI0.called.symm
    by_cases hw : w = 0
    · rw [if_pos hw]; exact mwI_ret ⟨by unfold pPick; rw [if_pos hw], hfin⟩
    · rw [if_neg hw]; exact mwI_ret ⟨by unfold pPick; rw [if_neg hw], hfin⟩
  | succ j ih =>
    intro k ρ1 y best low o7 hk hI hf hl
    have hOk : iOK (uI I 0 1 ((k : Int) + 1)) := iOK_hall_u hO
    have h1 : iR (mj_up ρ1 33 0 3 ((k : Int) + 1)) (uI I 0 1 ((k : Int) + 1)) t := by
      have := iR_called' (x := (k : Int) + 1) hI
      rw [uI_uI] at this; exact this
    rw [ke130_2, if_neg (by omega)]
    refine mwI_rI (mwI_mono (harmR (μ := ρ) d hOk h1) (fun x ρ2 g => ?_))
    obtain ⟨rfl, g2, g3⟩ := g
    have hf2 : fr (fX sR 33 0 3) ρ ρ2 := fr_tr (fr_tr hf fX_up) (fX_fr (sR_S g3 (by decide)))
    have hH : pHarmI (uI I 0 1 ((k : Int) + 1)) = hC1 I k := rfl
    rw [hH]
    by_cases k0 : (k : Int) + 1 = 1
    · have : k = 0 := by omega
      subst this
      rw [if_pos k0, ke130_5, if_pos k0, wone 0 (by decide)]
      refine ih 1 ρ2 _ _ _ _ (by omega) g2 hf2 (Or.inr ?_)
      rw [pLe_1 (by have := pHarm_b hOk; unfold rg at this; rw [hH] at this; omega)]
      exact ⟨rfl, rfl⟩
    · obtain ⟨rfl, rfl⟩ := hl.resolve_left (by omega)
      rw [if_neg k0]
      by_cases q : hC1 I k < (pLe w1 (hC1 I) k).2
      · rw [if_pos q, ke130_5, if_neg k0, if_pos q, wone k (by omega)]
        exact ih (k + 1) ρ2 _ _ _ _ (by omega) g2 hf2 (Or.inr (by rw [pLe_y q]; exact ⟨rfl, rfl⟩))
      · rw [if_neg q, ke130_5, if_neg k0, if_neg q, wone k (by omega)]
        exact ih (k + 1) ρ2 _ _ _ _ (by omega) g2 hf2 (Or.inr (by rw [pLe_n q]; exact ⟨rfl, rfl⟩))
theorem op_call (d : Nat) (w : Int) {μ ρ : mj_M} (h : Inv μ ρ) : mw2 (kc (d + 20) 21 [v_r 0 0, v_i w] μ) (kc (d + 20) 130 [v_r 33 0, v_i w] ρ) := by
  obtain ⟨I, t, hD, -⟩ := Inv_day h
  obtain ⟨n4, m16, t6, cn, rn, cm, rm⟩ := dAll_n hD
  rw [ke21_0, ke130_0, kc44, kc72, rI_some, rI_some]
  by_cases qw : 0 ≤ w ∧ w ≤ 1
  · rw [b01_t qw, if_neg n10, if_neg n10, hD.2.1.called]
    refine mw2_of (x := pPick w (pLe w1 (hC1 I) 9)) h ?_ ?_
    · refine mwI_rV (mwV_mono (kc188 (d + 18) μ w1 (hC1 I)) (fun μ1 g => ?_))
      refine mwI_rV (mwV_mono (tC_plan (d + 17) hD g.2) (fun μ2 g2 => ?_))
      refine kd21 (d + 14) w μ I t hD.2.2.1 t6 9 0 μ2 I.called (by omega) ?_ ⟨by rw [frP_ns g2.2 rfl]; exact g.1.1, by rw [frP_ns g2.2 rfl]; exact g.1.2⟩
      rw [uI_called0]; exact g2.1
    · refine kd130 (d + 11) w ρ I t hD.2.2.1 hD.2.1 9 0 ρ I.called 0 0 _ (by omega) ?_ fr_rf (Or.inl rfl)
      rw [uI_called0]; exact hD.2.1
  · rw [b01_f qw, if_pos rfl, if_pos rfl]; exact mw2_same _ h
/-! letter -/
def pLet (x : Int) (k : Nat) : Int := ((x.toNat ||| (mj_w (1 * 2 ^ k)).toNat : Nat) : Int)
theorem pLet_q : ∀ x, x < 16 → ∀ k, k < 4 → (x ||| (mj_w (1 * 2 ^ k)).toNat) < 16 := by decide
theorem pLet_b {x : Int} {k : Nat} (hx : 0 ≤ x ∧ x ≤ 15) (hk : k < 4) : 0 ≤ pLet x k ∧ pLet x k ≤ 15 := by
  have := pLet_q x.toNat (by omega) k hk
  unfold pLet
  omega
theorem bit_nn : ∀ k, k < 32 → (0 : Int) ≤ mj_w (1 * 2 ^ k) ∨ k = 31 := by decide
def wL (k : Nat) : Int := (k : Int) - 1
def hL1 (I : pI) (c : Nat) : Nat → Int
  | 0 => pHarmI I
  | k + 1 => pHarmI (uI I 1 c (pLet (I.does c) k))
theorem wk4' (k : Nat) (h : k < 100) : mj_w ((k : Int) + 1) = ((k + 1 : Nat) : Int) := by
  rw [wi (by omega) (by omega)]; omega
theorem kd17 (d : Nat) (w : Int) (μ0 : mj_M) (I : pI) (t c : Nat) (hO : iOK I) (h6 : t < 6) (hc : c < I.n) (h0 : μ0 2 0 c = I.does c) :
    ∀ j k (μ1 : mj_M) (y : Int), k + j = 4 → tC μ0 μ1 (uI I 1 c y) t → lC μ1 (pLe wL (hL1 I c) (k + 1)) →
      mwI (kd (d + 5) 17 3 [some (v_r 0 0), some (v_i (c : Int)), some (v_i w), some (v_i (k : Int))] [] μ1) (fun x μ' => x = pPick w (pLe wL (hL1 I c) 5) ∧ fr sC μ0 μ') := by
  have hn := hO.n
  intro j
  induction j with
  | zero =>
    intro k μ1 y hk h hl
    have e : k = 4 := by omega
    rw [e] at hl
    rw [ke17_3, if_neg (by omega), kc190 (d + 4) w μ1 _ hl, rI_some]
    exact mwI_ret ⟨rfl, h.2.2⟩
  | succ j ih =>
    intro k μ1 y hk h hl
    have hb : 0 ≤ (c : Int) ∧ (c : Int) < 4 := by omega
    have hdo := hO.does c hc
    have hd : μ1 2 0 c = I.does c := (h.2.2 2 0 c rfl).trans h0
    have hbit := (bit_nn k (by omega)).resolve_right (by omega)
    have hOk : iOK (uI I 1 c (pLet (I.does c) k)) := iOK_does_u hO (pLet_b hdo (by omega))
    have h1 : tC μ0 (mj_up μ1 2 2 c (pLet (I.does c) k)) (uI I 1 c (pLet (I.does c) k)) t := by
      have := tC_set h (iC_does (x := pLet (I.does c) k) (c := c) h.1) rfl (Or.inl (by decide))
      rw [uI_uI] at this; exact this
    rw [ke17_3, if_pos (by omega), if_pos hb, if_pos (by omega), Int.toNat_natCast, Int.toNat_natCast, hd, if_pos ⟨hdo.1, hbit⟩, if_pos hb]
    refine mwI_rV (mwV_mono (tC_live d h1 hOk h6) (fun μ2 g => ?_))
    rw [harmC (d + 2) hOk g.1 g.2.1.1, rI_some]
    have hk1 := kc189 (d + 4) (k + 1) μ2 wL (hL1 I c) (lC_fr (lC_up hl (by decide)) g.2.2 rfl)
    rw [show wL (k + 1) = (k : Int) by unfold wL; omega] at hk1
    refine mwI_rV (mwV_mono hk1 (fun μ3 q => ?_))
    rw [wk4' k (by omega)]
    exact ih (k + 1) μ3 _ (by omega) (tC_31 g.2.1 q.2) q.1
theorem kd124 (d : Nat) (w : Int) (ρ : mj_M) (I : pI) (t c : Nat) (hO : iOK I) (hI0 : iR ρ I t) (hc : c < I.n) :
    ∀ j k (ρ1 : mj_M) (y : Int) o7, k + j = 4 → iR ρ1 (uI I 1 c y) t → fr (fX sR 34 0 (3 * c)) ρ ρ1 →
      mwI (kd (d + 8) 124 3 [some (v_r 33 0), some (v_i (c : Int)), some (v_i w), some (v_i (I.does c)), some (v_i (pLe wL (hL1 I c) (k + 1)).1), some (v_i (pLe wL (hL1 I c) (k + 1)).2), some (v_i (k : Int)), o7] [] ρ1) (fun x ρ' => x = pPick w (pLe wL (hL1 I c) 5) ∧ fr sR ρ ρ') := by
  have hn := hO.n
  obtain ⟨⟨e1, -, -, -, -⟩, -, hb, -, -⟩ := w3 c (by omega)
  intro j
  induction j with
  | zero =>
    intro k ρ1 y o7 hk hI hf
    have e : k = 4 := by omega
    subst e
    rw [ke124_3, if_neg (by omega), e1, if_pos hb, Int.toNat_natCast]
    have hfin : fr sR ρ (mj_up ρ1 34 0 (3 * c) (I.does c)) := fX_back hf (hI0.does c hc).symm
    by_cases hw : w = 0
    · rw [if_pos hw]; exact mwI_ret ⟨by unfold pPick; rw [if_pos hw], hfin⟩
    · rw [if_neg hw]; exact mwI_ret ⟨by unfold pPick; rw [if_neg hw], hfin⟩
  | succ j ih =>
    intro k ρ1 y o7 hk hI hf
    have hdo := hO.does c hc
    have hbit := (bit_nn k (by omega)).resolve_right (by omega)
    have hOk : iOK (uI I 1 c (pLet (I.does c) k)) := iOK_does_u hO (pLet_b hdo (by omega))
    have h1 : iR (mj_up ρ1 34 0 (3 * c) (pLet (I.does c) k)) (uI I 1 c (pLet (I.does c) k)) t := by
      have := iR_does (x := pLet (I.does c) k) (c := c) hI
      rw [uI_uI] at this; exact this
    rw [ke124_3, if_pos (by omega), if_pos (by omega), Int.toNat_natCast, if_pos ⟨hdo.1, hbit⟩, e1, if_pos hb, Int.toNat_natCast]
    refine mwI_rI (mwI_mono (harmR (μ := ρ) d hOk h1) (fun x ρ2 g => ?_))
    obtain ⟨rfl, g2, g3⟩ := g
    have hf2 : fr (fX sR 34 0 (3 * c)) ρ ρ2 := fr_tr (fr_tr hf fX_up) (fX_fr (sR_S g3 (by decide)))
    have hH : pHarmI (uI I 1 c (pLet (I.does c) k)) = hL1 I c (k + 1) := rfl
    rw [hH]
    by_cases q : hL1 I c (k + 1) < (pLe wL (hL1 I c) (k + 1)).2
    · have hn := ih (k + 1) ρ2 _ none (by omega) g2 hf2
      rw [pLe_y q, show wL (k + 1) = (k : Int) by unfold wL; omega] at hn
      rw [if_pos q, ke124_5, if_pos q, wk4' k (by omega)]
      exact hn
    · have hn := ih (k + 1) ρ2 _ none (by omega) g2 hf2
      rw [pLe_n q] at hn
      rw [if_neg q, ke124_5, if_neg q, wk4' k (by omega)]
      exact hn
theorem op_letter (d : Nat) (c w : Int) {μ ρ : mj_M} (h : Inv μ ρ) : mw2 (kc (d + 20) 17 [v_r 0 0, v_i c, v_i w] μ) (kc (d + 20) 124 [v_r 33 0, v_i c, v_i w] ρ) := by
  obtain ⟨I, t, hD, -⟩ := Inv_day h
  obtain ⟨n4, m16, t6, cn, rn, cm, rm⟩ := dAll_n hD
  rw [ke17_0, ke124_0, kc49 (d + 17) c μ I.n cn (by omega), kc74 (d + 17) c ρ I.n rn (by omega), rI_some, rI_some]
  by_cases q : 0 ≤ c ∧ c < (I.n : Int)
  · rw [b01_t q, if_neg n10, if_neg n10, kc44, kc72, rI_some, rI_some]
    by_cases qw : 0 ≤ w ∧ w ≤ 1
    · obtain ⟨k, rfl⟩ : ∃ k : Nat, c = k := ⟨c.toNat, by omega⟩
      have hk : k < I.n := by omega
      obtain ⟨⟨e1, -, -, -, -⟩, -, hb, -, -⟩ := w3 k (by omega)
      have h1 : pLe wL (hL1 I k) 1 = (-1, pHarmI I) := pLe_1 (by have := pHarm_b hD.2.2.1; unfold rg at this; show pHarmI I < _; omega)
      rw [b01_t qw, if_neg n10, if_neg n10, e1, if_pos hb, Int.toNat_natCast, hD.2.1.does k hk]
      refine mw2_of (x := pPick w (pLe wL (hL1 I k) 5)) h ?_ ?_
      · refine mwI_rV (mwV_mono (kc188 (d + 18) μ wL (hL1 I k)) (fun μ1 g => ?_))
        refine mwI_rV (mwV_mono (tC_is (d + 13) hD g.2) (fun μ2 g2 => ?_))
        rw [harmC (d + 16) hD.2.2.1 g2.1 g2.2.1.1, rI_some]
        refine mwI_rV (mwV_mono (kc189 (d + 18) 0 μ2 wL (hL1 I k) ⟨by rw [g2.2.2]; exact g.1.1, by rw [g2.2.2]; exact g.1.2⟩) (fun μ3 g3 => ?_))
        refine kd17 (d + 14) w μ I t k hD.2.2.1 t6 hk (hD.1.does k hk) 4 0 μ3 (I.does k) (by omega) ?_ g3.1
        rw [uI_does0]; exact tC_31 g2.2.1 g3.2
      · refine mwI_rI (mwI_mono (harmR (μ := μ) (d + 11) hD.2.2.1 hD.2.1) (fun x ρ1 g => ?_))
        obtain ⟨rfl, g2, g3⟩ := g
        have := kd124 (d + 11) w ρ I t k hD.2.2.1 hD.2.1 hk 4 0 ρ1 (I.does k) none (by omega) (by rw [uI_does0]; exact g2) (fX_fr (sR_S g3 (by decide)))
        rw [show 0 + 1 = 1 from rfl, h1] at this
        exact this
    · rw [b01_f qw, if_pos rfl, if_pos rfl]; exact mw2_same _ h
  · rw [b01_f q, if_pos rfl, if_pos rfl]; exact mw2_same _ h
