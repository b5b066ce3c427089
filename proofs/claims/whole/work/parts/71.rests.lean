/-! rests -/
theorem Inv_move {μ ρ : mj_M} {m a : Nat} {v : Int} (h : Inv μ ρ) (hm : μ 1 0 4 = (m : Int)) (ha : a < m) (hv : 0 ≤ v ∧ v ≤ 119) : Inv (mj_up μ 5 0 a v) (mj_up ρ 39 0 a v) := by
  obtain ⟨n, m', t, tc, z, ⟨⟨a1, a2, a3, a4, a5, a6⟩, hb, hc4, hcs, has⟩, hT, hP, hM, hS⟩ := h
  have cm : μ 1 0 4 = (m' : Int) := a5
  have e : m' = m := by omega
  subst e
  refine ⟨n, m', t, tc, z, ?_⟩
  rw [mC_up rfl, mR_up rfl]
  refine ⟨⟨⟨a1, a2, a3, a4, a5, a6⟩, hb, hc4, hcs, fun b hb' => ?_⟩, vText_cg hT (fr_up rfl) (fr_up rfl), vTape_cg hP (fr_up rfl) (fr_up rfl), vImg_cg hM (fr_up rfl) (fr_up rfl), vSheets_cg hS (fr_up rfl) (fr_up rfl)⟩
  obtain ⟨p1, p2, p3, p4, p5⟩ := has b hb'
  refine ⟨p1, p2, p3, p4, ?_⟩
  by_cases e : b = a
  · rw [e, up_eq, up_eq]; exact ⟨rfl, hv⟩
  · rw [up_nk e, up_nk e]; exact p5
theorem pLe_at {w H : Nat → Int} (h : H 0 < 2147483647) : ∀ k, ∃ i, i ≤ k ∧ (pLe w H (k + 1)).1 = w i
  | 0 => ⟨0, Nat.le_refl _, by rw [pLe_1 h]⟩
  | k + 1 => by
    obtain ⟨i, h1, h2⟩ := pLe_at (w := w) h k
    by_cases q : H (k + 1) < (pLe w H (k + 1)).2
    · exact ⟨k + 1, Nat.le_refl _, by rw [pLe_y q]⟩
    · exact ⟨i, by omega, by rw [pLe_n q]; exact h2⟩
theorem pBst_b {I : pI} (hO : iOK I) {a : Nat} (ha : a < I.m) : 0 ≤ (pBst I a).1 ∧ (pBst I a).1 ≤ 119 := by
  have hOk : iOK (uI I 4 a (20 * ((0 : Nat) : Int))) := iOK_comes_u hO (by omega)
  obtain ⟨i, h1, h2⟩ := pLe_at (w := wB) (H := hB I a) (pBad_b hOk (show a < (uI I 4 a (20 * ((0 : Nat) : Int))).m from ha)) 5
  have : (pBst I a).1 = wB i := h2
  rw [this]
  unfold wB
  omega
theorem mw2_rI {r r' : mj_R} {f f' : Int → mj_M → mj_R} {Q Q' : Int → mj_M → Prop} (h : mwI r Q) (h' : mwI r' Q') (k : ∀ x μ y ρ, Q x μ → Q' y ρ → mw2 (f x μ) (f' y ρ)) : mw2 (mj_rI r f) (mj_rI r' f') := by
  obtain ⟨x, μ, rfl, hq⟩ := h
  obtain ⟨y, ρ, rfl, hq'⟩ := h'
  exact k x μ y ρ hq hq'
theorem kd27 (d : Nat) (days m : Nat) (hdays : days ≤ 5) (hm16 : m ≤ 16) :
    ∀ j dd mv o4 o5 o6 o7 o8 (μ ρ : mj_M) (on_ : Int), dd + j = days → mv ≤ 16 * dd → (on_ = 1) → Inv μ ρ → μ 1 0 4 = (m : Int) → ρ 33 0 5 = (m : Int) →
      mw2 (kd (d + 19) 27 2 [some (v_r 0 0), some (v_i (days : Int)), some (v_i (mv : Int)), some (v_i (dd : Int)), o4, o5] [] μ) (kd (d + 19) 139 2 [some (v_r 33 0), some (v_i (days : Int)), some (v_i (mv : Int)), some (v_i on_), some (v_i (dd : Int)), o6, o7, o8] [] ρ) := by
  intro j
  induction j with
  | zero =>
    intro dd mv o4 o5 o6 o7 o8 μ ρ on_ hj hmv hon h hcm hrm
    rw [ke27_2, ke139_2, if_neg (by omega), if_neg (by omega)]
    exact mw2_same _ h
  | succ j ih =>
    intro dd mv o4 o5 o6 o7 o8 μ ρ on_ hj hmv hon h hcm hrm
    rw [ke27_2, ke139_2, if_pos (by omega), if_pos (by omega), if_neg (by omega)]
    have inner : ∀ i a nv (on_ : Int) o6 o7 (μ ρ : mj_M), a + i = m → ((on_ = 0 ∧ nv = mv) ∨ (on_ = 1 ∧ mv < nv)) → nv ≤ mv + a → Inv μ ρ → μ 1 0 4 = (m : Int) → ρ 33 0 5 = (m : Int) →
        mw2 (kd (d + 19) 27 3 [some (v_r 0 0), some (v_i (days : Int)), some (v_i (nv : Int)), some (v_i (dd : Int)), some (v_i (mv : Int)), some (v_i (a : Int))] [] μ) (kd (d + 19) 139 3 [some (v_r 33 0), some (v_i (days : Int)), some (v_i (nv : Int)), some (v_i on_), some (v_i (dd : Int)), some (v_i (a : Int)), o6, o7] [] ρ) := by
      intro i
      induction i with
      | zero =>
        intro a nv on_ o6 o7 μ ρ hi hon hnv h hcm hrm
        have hc : ¬ (a : Int) < (m : Int) := by omega
        rw [ke27_3, ke139_3, hcm, hrm, if_neg hc, if_neg hc, wk dd (m := 16) (by omega) (by omega)]
        rcases hon with ⟨rfl, rfl⟩ | ⟨rfl, hlt⟩
        · rw [if_pos rfl, ke139_2]
          split
          · rw [if_pos rfl]; exact mw2_same _ h
          · exact mw2_same _ h
        · rw [if_neg (by omega)]
          exact ih (dd + 1) nv _ _ _ _ _ μ ρ 1 (by omega) (by omega) rfl h hcm hrm
      | succ i ihi =>
        intro a nv on_ o6 o7 μ ρ hi hon hnv h hcm hrm
        obtain ⟨I, t, hD, -⟩ := Inv_day h
        have hIm : I.m = m := by have := hD.1.m; omega
        have ha : a < I.m := by omega
        have hb16 : 0 ≤ (a : Int) ∧ (a : Int) < 16 := by omega
        have hb17 : 0 ≤ (a : Int) ∧ (a : Int) < 17 := by omega
        have hc : (a : Int) < (m : Int) := by omega
        rw [ke27_3, ke139_3, hcm, hrm, if_pos hc, if_pos hc]
        refine mw2_rI (kc66 (d + 11) a hD ha) (kc136 (d + 10) ρ I t a (fun x hx => iOK_comes_u hD.2.2.1 hx) ha (by omega) hD.2.1) (fun x μ1 y ρ1 g g' => ?_)
        obtain ⟨rfl, g2, g3⟩ := g
        obtain ⟨rfl, g4, g5⟩ := g'
        obtain ⟨z, ρ2, e, rfl, g6, g7⟩ := badR (d + 11) a hD.2.2.1 (iR_sR hD.2.1 g5) ha
        have hf2 : fr sR ρ ρ2 := fr_tr g5 (sR_S g7 (by decide))
        have hI2 : Inv μ1 ρ2 := Inv_fr h g2 hf2
        have hcm1 : μ1 1 0 4 = (m : Int) := (g2 1 0 4 rfl).trans hcm
        have hrm2 : ρ2 33 0 5 = (m : Int) := (hf2 33 0 5 rfl).trans hrm
        rw [e, rI_some, g4, wk a (m := 16) (by omega) (by omega), wk nv (m := 1000) (by omega) (by omega), g3.1]
        by_cases q : pMv I a
        · rw [b01_t q, if_neg n10, if_pos q, if_pos hb16, if_pos hb17, Int.toNat_natCast]
          refine ihi (a + 1) (nv + 1) 1 _ _ _ _ (by omega) (Or.inr ⟨rfl, by omega⟩) (by omega) (Inv_move hI2 hcm1 (by omega) (pBst_b hD.2.2.1 ha)) ?_ ?_
          · rw [up_ns (by decide)]; exact hcm1
          · rw [up_ns (by decide)]; exact hrm2
        · rw [b01_f q, if_pos rfl, if_neg q]
          exact ihi (a + 1) nv on_ _ _ _ _ (by omega) hon (by omega) hI2 hcm1 hrm2
    exact inner m 0 mv 0 _ _ μ ρ (by omega) (Or.inl ⟨rfl, rfl⟩) (by omega) h hcm hrm
theorem op_rests (d : Nat) (v : Int) {μ ρ : mj_M} (h : Inv μ ρ) : mw2 (kc (d + 20) 27 [v_r 0 0, v_i v] μ) (kc (d + 20) 139 [v_r 33 0, v_i v] ρ) := by
  obtain ⟨I, t, hD, -⟩ := Inv_day h
  obtain ⟨n4, m16, t6, cn, rn, cm, rm⟩ := dAll_n hD
  rw [ke27_0, ke139_0, kc44, kc72, rI_some, rI_some]
  by_cases q : 0 ≤ v ∧ v ≤ 5
  · obtain ⟨k, rfl⟩ : ∃ k : Nat, v = k := ⟨v.toNat, by omega⟩
    rw [b01_t q, if_neg n10, if_neg n10]
    exact kd27 d k I.m (by omega) m16 k 0 0 _ _ _ _ _ μ ρ 1 (by omega) (by omega) rfl h cm rm
  · rw [b01_f q, if_pos rfl, if_pos rfl]; exact mw2_same _ h
