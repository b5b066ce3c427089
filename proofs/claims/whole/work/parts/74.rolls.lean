/-! rolls: judge, which, laws -/
def pUn (f g : Nat → Int) : Nat → Nat → Int
  | 0, _ => -1
  | j + 1, k => if f k = g k then pUn f g j (k + 1) else (k : Int)
theorem pUn_cg {f g f' g' : Nat → Int} : ∀ {j k : Nat}, (∀ a, k ≤ a → a < k + j → f a = f' a ∧ g a = g' a) → pUn f g j k = pUn f' g' j k
  | 0, _, _ => rfl
  | j + 1, k, h => by
    obtain ⟨h1, h2⟩ := h k (Nat.le_refl _) (by omega)
    unfold pUn
    rw [h1, h2, pUn_cg (fun a h3 h4 => h a (by omega) (by omega))]
theorem kc67 (d s : Nat) (μ : mj_M) {m : Nat} (hm : μ 1 0 4 = (m : Int)) (h : m ≤ 16) : kc (d + 1) 67 [v_r 0 0, v_r 19 s] μ = some (some (v_i (pUn (μ 20 s) (μ 24 0) m 0)), μ) := by
  rw [ke67_0]
  have key : ∀ j k, k + j = m → kd d 67 1 [some (v_r 0 0), some (v_r 19 s), some (v_i (k : Int))] [] μ = some (some (v_i (pUn (μ 20 s) (μ 24 0) j k)), μ) := by
    intro j
    induction j with
    | zero => intro k hk; rw [ke67_1, hm, if_neg (by omega)]; rfl
    | succ j ih =>
      intro k hk
      have hb : 0 ≤ (k : Int) ∧ (k : Int) < 16 := by omega
      have hb40 : 0 ≤ (k : Int) ∧ (k : Int) < 40 := by omega
      have hp : pUn (μ 20 s) (μ 24 0) (j + 1) k = if μ 20 s k = μ 24 0 k then pUn (μ 20 s) (μ 24 0) j (k + 1) else (k : Int) := rfl
      rw [ke67_1, hm, if_pos (by omega), if_pos hb40, if_pos hb, Int.toNat_natCast, hp]
      by_cases q : μ 20 s k = μ 24 0 k
      · rw [if_pos q, if_pos q, wk k (m := 16) (by omega) (by omega)]; exact ih (k + 1) (by omega)
      · rw [if_neg q, if_neg q]
  exact key m 0 (by omega)
theorem w40 (s a : Nat) (hs : s < 4) (ha : a < 40) : mj_w (mj_w (40 * (s : Int)) + (a : Int)) = ((40 * s + a : Nat) : Int) ∧ (0 ≤ ((40 * s + a : Nat) : Int) ∧ ((40 * s + a : Nat) : Int) < 160) := by
  refine ⟨?_, by omega⟩
  rw [wi (z := 40 * (s : Int)) (by omega) (by omega), wi (by omega) (by omega)]; omega
def pJ (I : pI) (f : Nat → Int) : Int := pUn f (pLife I 3) I.m 0
theorem unC (d s : Nat) {μ : mj_M} {I : pI} {t : Nat} {f : Nat → Int} (hO : iOK I) (hZ : zC μ I (pLife I)) (hm : μ 1 0 4 = (I.m : Int)) (hf : ∀ a, a < I.m → μ 20 s a = f a) : kc (d + 1) 67 [v_r 0 0, v_r 19 s] μ = some (some (v_i (pJ I f)), μ) := by
  rw [kc67 d s μ hm hO.m]
  unfold pJ
  rw [pUn_cg (f := μ 20 s) (g := μ 24 0) (f' := f) (g' := pLife I 3) (fun a _ ha => ⟨hf a (by omega), zC_a hZ (by omega) 3 (by decide)⟩)]
theorem unR (d s : Nat) (hs : s < 4) {ρ : mj_M} {I : pI} {t : Nat} {f : Nat → Int} (hO : iOK I) (hI : iR ρ I t) (hf : ∀ a, a < I.m → ρ 47 0 (40 * s + a) = f a) : mwI (kc (d + 8) 145 [v_r 33 0, v_i (s : Int)] ρ) (fun x ρ' => x = pJ I f ∧ iR ρ' I t ∧ fr (fS dR) ρ ρ') := by
  have hm := hO.m
  rw [ke145_0]
  refine mwI_rV (mwV_mono (kc112 d I t ρ hO hI) (fun ρ' g => ?_))
  have hI' := iR_fr hI g.2 (by decide)
  have key : ∀ j k, k + j = I.m → kd (d + 7) 145 1 [some (v_r 33 0), some (v_i (s : Int)), some (v_i (k : Int))] [] ρ' = some (some (v_i (pUn f (pLife I 3) j k)), ρ') := by
    intro j
    induction j with
    | zero => intro k hk; rw [ke145_1, hI'.m, if_neg (by omega)]; rfl
    | succ j ih =>
      intro k hk
      obtain ⟨w1, w2⟩ := w40 s k hs (by omega)
      have hb : 0 ≤ (k : Int) ∧ (k : Int) < 17 := by omega
      have h47 : ρ' 47 0 (40 * s + k) = f k := by rw [fS_rd g.2 rfl]; exact hf k (by omega)
      have h56 : ρ' 56 0 k = pLife I 3 k := zR_a g.1 (by omega) 3 (by decide)
      have hp : pUn f (pLife I 3) (j + 1) k = if f k = pLife I 3 k then pUn f (pLife I 3) j (k + 1) else (k : Int) := rfl
      rw [ke145_1, hI'.m, if_pos (by omega), w1, if_pos w2, if_pos hb, Int.toNat_natCast, Int.toNat_natCast, h47, h56, hp]
      by_cases q : f k = pLife I 3 k
      · rw [if_pos q, if_pos q, wk k (m := 16) (by omega) (by omega)]; exact ih (k + 1) (by omega)
      · rw [if_neg q, if_neg q]
  exact mwI_eq (key I.m 0 (by omega)) ⟨rfl, hI', g.2⟩
theorem Inv_sh {μ ρ : mj_M} (h : Inv μ ρ) (s : Nat) (hs : s < 4) : (ρ 45 0 s = μ 19 s 0 ∧ rg (μ 19 s 0) (-1) 2) ∧ (ρ 46 0 s = μ 19 s 1 ∧ rg (μ 19 s 1) 0 40) ∧ ∀ i, i < 40 → ρ 47 0 (40 * s + i) = μ 20 s i ∧ mj_n32 (μ 20 s i) := by
  obtain ⟨n, m, t, tc, z, -, -, -, -, hS⟩ := h
  exact hS s hs
theorem kc194 (d s : Nat) (μ : mj_M) : kc (d + 1) 194 [v_r 19 s] μ = some (some (v_i (b01 (μ 19 s 0 = -1))), μ) := by
  rw [ke194_0]
  unfold b01
  split <;> rfl
theorem refuse (d d' : Nat) (s : Int) {μ ρ : mj_M} {m : Nat} (h : Inv μ ρ) (cm : μ 1 0 4 = (m : Int)) (rm : ρ 33 0 5 = (m : Int)) : ∃ x, kc (d + 3) 55 [v_r 0 0, v_i s] μ = some (some (v_i x), μ) ∧ kc (d' + 2) 144 [v_r 33 0, v_i s] ρ = some (some (v_i x), ρ) ∧ (x = 0 → ∃ k : Nat, s = (k : Int) ∧ k < 4 ∧ μ 19 k 1 = (m : Int)) := by
  rw [ke55_0, ke144_0, kc48, kc72, rI_some, rI_some]
  by_cases q : 0 ≤ s ∧ s ≤ 3
  · obtain ⟨k, rfl⟩ : ∃ k : Nat, s = k := ⟨s.toNat, by omega⟩
    obtain ⟨⟨h1, -⟩, ⟨h2, -⟩, -⟩ := Inv_sh h k (by omega)
    have hb : 0 ≤ (k : Int) ∧ (k : Int) < 4 := by omega
    rw [b01_t q, if_neg n10, if_neg n10, if_pos hb, if_pos hb, if_pos hb, Int.toNat_natCast, h1, h2, kc194, rI_some]
    by_cases q1 : μ 19 k 0 = -1
    · rw [b01_t q1, if_neg n10, if_pos q1]
      exact ⟨_, rfl, rfl, fun w => absurd w (by decide)⟩
    · rw [b01_f q1, if_pos rfl, if_pos hb, if_neg q1, cm, rm]
      by_cases q2 : μ 19 k 1 = (m : Int)
      · rw [if_pos q2, if_pos q2]
        exact ⟨_, rfl, rfl, fun _ => ⟨k, rfl, by omega, q2⟩⟩
      · rw [if_neg q2, if_neg q2]
        exact ⟨_, rfl, rfl, fun w => absurd w (by decide)⟩
  · rw [b01_f q, if_pos rfl, if_pos rfl]
    exact ⟨_, rfl, rfl, fun w => absurd w (by decide)⟩
theorem op_judge (d : Nat) (s : Int) {μ ρ : mj_M} (h : Inv μ ρ) : mw2 (kc (d + 20) 31 [v_r 0 0, v_i s] μ) (kc (d + 20) 146 [v_r 33 0, v_i s] ρ) := by
  obtain ⟨I, t, hD, -⟩ := Inv_day h
  obtain ⟨n4, m16, t6, cn, rn, cm, rm⟩ := dAll_n hD
  obtain ⟨x, e1, e2, hx⟩ := refuse (d + 16) (d + 17) s h cm rm
  rw [ke31_0, ke146_0, e1, e2, rI_some, rI_some]
  by_cases q : x = 0
  · obtain ⟨k, rfl, hk, hsz⟩ := hx q
    obtain ⟨-, -, hcell⟩ := Inv_sh h k hk
    have hb : 0 ≤ (k : Int) ∧ (k : Int) < 4 := by omega
    rw [if_pos q, if_pos q]
    refine mw2_of (x := pJ I (μ 20 k)) h ?_ ?_
    · refine mwI_rV (mwV_mono (liveC (d + 13) hD) (fun μ1 g => ?_))
      rw [if_pos hb, Int.toNat_natCast, unC (t := t) (d + 18) k (f := μ 20 k) hD.2.2.1 g.1 ((g.2.2 1 0 4 rfl).trans cm) (fun a _ => g.2.2 20 k a rfl), rI_some]
      exact mwI_ret ⟨rfl, g.2.2⟩
    · refine mwI_rI (mwI_mono (unR (d + 11) k hk (f := μ 20 k) hD.2.2.1 hD.2.1 (fun a ha => (hcell a (by omega)).1)) (fun y ρ1 g => ?_))
      exact mwI_ret ⟨g.1, sR_S g.2.2 (by decide)⟩
  · rw [if_neg q, if_neg q]; exact mw2_same _ h
abbrev pWh (I : pI) (f : Nat → Int) (w : Nat) : Prop := pJ (uI I 0 0 (w : Int)) f = -1
theorem kd33 (d k : Nat) (hk : k < 4) (μ0 : mj_M) (I : pI) (t : Nat) (f : Nat → Int) (hO : iOK I) (h6 : t < 6) (hm : μ0 1 0 4 = (I.m : Int)) (hf : ∀ a, a < I.m → μ0 20 k a = f a) :
    ∀ j w (μ1 : mj_M) (y : Int) o2, w + j = 4 → tC μ0 μ1 (uI I 0 0 y) t →
      mwI (kd (d + 5) 33 2 [some (v_r 0 0), some (v_i (k : Int)), o2, some (v_i (pBits (pWh I f) w)), some (v_i (w : Int))] [] μ1) (fun x μ' => x = pBits (pWh I f) 4 ∧ fr sC μ0 μ') := by
  intro j
  induction j with
  | zero =>
    intro w μ1 y o2 hw h
    have e : w = 4 := by omega
    rw [ke33_2, if_neg (by omega), e]
    exact mwI_ret ⟨rfl, h.2.2⟩
  | succ j ih =>
    intro w μ1 y o2 hw h
    have hb : 0 ≤ (k : Int) ∧ (k : Int) < 4 := by omega
    have hbit := (bit_nn w (by omega)).resolve_right (by omega)
    have hp : pBits (pWh I f) (w + 1) = if pWh I f w then (((pBits (pWh I f) w).toNat ||| (mj_w (1 * 2 ^ w)).toNat : Nat) : Int) else pBits (pWh I f) w := rfl
    have hOk : iOK (uI I 0 0 (w : Int)) := iOK_hall_u hO
    have h1 : tC μ0 (mj_up μ1 1 2 6 (w : Int)) (uI I 0 0 (w : Int)) t := by
      have := tC_set h (iC_who' (x := (w : Int)) h.1) rfl (Or.inr (by decide))
      rw [uI_uI] at this; exact this
    rw [ke33_2, if_pos (by omega)]
    refine mwI_rV (mwV_mono (tC_live d h1 hOk h6) (fun μ2 g => ?_))
    have hs := g.2.1.2.2
    rw [if_pos hb, Int.toNat_natCast, unC (t := t) (d + 4) k (f := f) hOk g.1 ((hs 1 0 4 rfl).trans hm) (fun a ha => (hs 20 k a rfl).trans (hf a ha)), rI_some]
    by_cases q : pWh I f w
    · rw [if_pos q] at hp
      rw [if_pos q, if_pos (by omega), Int.toNat_natCast, if_pos ⟨pBits_nn _ _, hbit⟩, wk w (m := 16) (by omega) (by omega), ← hp]
      exact ih (w + 1) μ2 _ _ (by omega) g.2.1
    · rw [if_neg q] at hp
      rw [if_neg q, wk w (m := 16) (by omega) (by omega), ← hp]
      exact ih (w + 1) μ2 _ _ (by omega) g.2.1
theorem kd148 (d k : Nat) (hk : k < 4) (ρ : mj_M) (I : pI) (t : Nat) (f : Nat → Int) (hO : iOK I) (hI0 : iR ρ I t) (hf : ∀ a, a < I.m → ρ 47 0 (40 * k + a) = f a) :
    ∀ j w (ρ1 : mj_M) (y : Int) o2, w + j = 4 → iR ρ1 (uI I 0 0 y) t → fr (fX sR 33 0 2) ρ ρ1 →
      mwI (kd (d + 8) 148 2 [some (v_r 33 0), some (v_i (k : Int)), o2, some (v_i I.who), some (v_i (pBits (pWh I f) w)), some (v_i (w : Int))] [] ρ1) (fun x ρ' => x = pBits (pWh I f) 4 ∧ fr sR ρ ρ') := by
  intro j
  induction j with
  | zero =>
    intro w ρ1 y o2 hw h hf1
    have e : w = 4 := by omega
    rw [ke148_2, if_neg (by omega), e]
    exact mwI_ret ⟨rfl, fX_back hf1 hI0.who.symm⟩
  | succ j ih =>
    intro w ρ1 y o2 hw h hf1
    have hbit := (bit_nn w (by omega)).resolve_right (by omega)
    have hp : pBits (pWh I f) (w + 1) = if pWh I f w then (((pBits (pWh I f) w).toNat ||| (mj_w (1 * 2 ^ w)).toNat : Nat) : Int) else pBits (pWh I f) w := rfl
    have hOk : iOK (uI I 0 0 (w : Int)) := iOK_hall_u hO
    have h1 : iR (mj_up ρ1 33 0 2 (w : Int)) (uI I 0 0 (w : Int)) t := by
      have := iR_who' (x := (w : Int)) h
      rw [uI_uI] at this; exact this
    rw [ke148_2, if_pos (by omega)]
    refine mwI_rI (mwI_mono (unR d k hk (f := f) hOk h1 (fun a ha => by rw [up_ns (by decide)]; exact (hf1 47 0 _ rfl).trans (hf a ha))) (fun x ρ2 g => ?_))
    obtain ⟨rfl, g2, g3⟩ := g
    have hf2 : fr (fX sR 33 0 2) ρ ρ2 := fr_tr (fr_tr hf1 fX_up) (fX_fr (sR_S g3 (by decide)))
    by_cases q : pWh I f w
    · rw [if_pos q] at hp
      rw [if_pos q, if_pos (by omega), Int.toNat_natCast, if_pos ⟨pBits_nn _ _, hbit⟩, wk w (m := 16) (by omega) (by omega), ← hp]
      exact ih (w + 1) ρ2 _ _ (by omega) g2 hf2
    · rw [if_neg q] at hp
      rw [if_neg q, if_pos ⟨pBits_nn _ _, Int.le_refl _⟩, or_0 (pBits_nn _ _), wk w (m := 16) (by omega) (by omega), ← hp]
      exact ih (w + 1) ρ2 _ _ (by omega) g2 hf2
theorem op_which (d : Nat) (s : Int) {μ ρ : mj_M} (h : Inv μ ρ) : mw2 (kc (d + 20) 33 [v_r 0 0, v_i s] μ) (kc (d + 20) 148 [v_r 33 0, v_i s] ρ) := by
  obtain ⟨I, t, hD, -⟩ := Inv_day h
  obtain ⟨n4, m16, t6, cn, rn, cm, rm⟩ := dAll_n hD
  obtain ⟨x, e1, e2, hx⟩ := refuse (d + 16) (d + 17) s h cm rm
  rw [ke33_0, ke148_0, e1, e2, rI_some, rI_some]
  by_cases q : x = 0
  · obtain ⟨k, rfl, hk, hsz⟩ := hx q
    obtain ⟨-, -, hcell⟩ := Inv_sh h k hk
    rw [if_pos q, if_pos q, hD.2.1.who]
    refine mw2_of (x := pBits (pWh I (μ 20 k)) 4) h ?_ ?_
    · refine mwI_rV (mwV_mono (tC_plan (d + 17) hD fr_rf) (fun μ1 g1 => ?_))
      exact kd33 (d + 14) k hk μ I t (μ 20 k) hD.2.2.1 t6 cm (fun _ _ => rfl) 4 0 μ1 I.who _ (by omega) (by rw [uI_who0]; exact g1.1)
    · exact kd148 (d + 11) k hk ρ I t (μ 20 k) hD.2.2.1 hD.2.1 (fun a ha => (hcell a (by omega)).1) 4 0 ρ I.who _ (by omega) (by rw [uI_who0]; exact hD.2.1) fr_rf
  · rw [if_neg q, if_neg q]; exact mw2_same _ h
/-! laws: another text is the law -/
def lwI (I : pI) (g : Nat → Int) (e : Nat → Nat) : pI := (I.1, (fun r a => if r = 9 then g a else I.2.1 r a), e)
theorem lwI_r {I : pI} {g : Nat → Int} {e : Nat → Nat} {r a : Nat} (h : r ≠ 9) : (lwI I g e).2.1 r a = I.2.1 r a := if_neg h
theorem lwI_g {I : pI} {g : Nat → Int} {e : Nat → Nat} : (lwI I g e).g = g := funext fun a => (if_pos rfl : (if 9 = 9 then g a else I.2.1 9 a) = g a)
theorem lwI_lwI {I : pI} {g g' : Nat → Int} {e e' : Nat → Nat} : lwI (lwI I g e) g' e' = lwI I g' e' := by
  refine congrArg (fun Z => ((I.1, Z, e') : pI)) ?_
  funext r a
  by_cases h : r = 9
  · rw [if_pos h, if_pos h]
  · rw [if_neg h, if_neg h, lwI_r h]
theorem lwI_id {I : pI} : lwI I I.g I.e = I := by
  have : (fun r a => if r = 9 then I.g a else I.2.1 r a) = I.2.1 := by
    funext r a
    by_cases h : r = 9
    · rw [if_pos h, h]; rfl
    · rw [if_neg h]
  exact (congrArg (fun Z => ((I.1, Z, I.2.2) : pI)) this).trans rfl
theorem iC_law {μ : mj_M} {I : pI} {t t' : Nat} {x : Int} {g : Nat → Int} {e : Nat → Nat} (h : iC μ 2 I t) (hT : txtC μ t' g e) : iC (mj_up μ 1 2 9 x) 2 (lwI I g e) t' := ⟨(up_nk (by decide)).trans h.n, (up_nk (by decide)).trans h.m, (up_nk (by decide)).trans (h.who.trans (lwI_r (by decide)).symm), (up_nk (by decide)).trans (h.called.trans (lwI_r (by decide)).symm), (up_nk (by decide)).trans (h.stop.trans (lwI_r (by decide)).symm), (up_nk (by decide)).trans (h.quick.trans (lwI_r (by decide)).symm), (up_nk (by decide)).trans (h.right.trans (lwI_r (by decide)).symm), fun j hj => (up_ns (by decide)).trans ((h.does j hj).trans (lwI_r (by decide)).symm), fun j hj => (up_ns (by decide)).trans ((h.slow j hj).trans (lwI_r (by decide)).symm), fun j hj => (up_ns (by decide)).trans ((h.pause j hj).trans (lwI_r (by decide)).symm), fun j hj => (up_ns (by decide)).trans ((h.comes j hj).trans (lwI_r (by decide)).symm), fun a ha => ⟨(up_ns (by decide)).trans ((h.asker a ha).1.trans (lwI_r (by decide)).symm), (up_ns (by decide)).trans ((h.asker a ha).2.1.trans (lwI_r (by decide)).symm), (up_ns (by decide)).trans ((h.asker a ha).2.2.1.trans (lwI_r (by decide)).symm), (up_ns (by decide)).trans ((h.asker a ha).2.2.2.trans (lwI_r (by decide)).symm)⟩, (by rw [lwI_g]; exact ⟨fun p hp => (up_ns (by decide)).trans (hT.1 p hp), fun i hi => (up_ns (by decide)).trans (hT.2 i hi)⟩)⟩
theorem iR_law {ρ : mj_M} {I : pI} {t t' : Nat} {g : Nat → Int} {e : Nat → Nat} (h : iR ρ I t) (h6 : t' < 6) (hT : txtR ρ t' g e) : iR (mj_up ρ 33 0 16 (t' : Int)) (lwI I g e) t' := ⟨(up_nk (by decide)).trans h.n, (up_nk (by decide)).trans h.m, (up_nk (by decide)).trans (h.who.trans (lwI_r (by decide)).symm), (up_nk (by decide)).trans (h.called.trans (lwI_r (by decide)).symm), (up_nk (by decide)).trans (h.stop.trans (lwI_r (by decide)).symm), (up_nk (by decide)).trans (h.quick.trans (lwI_r (by decide)).symm), (up_nk (by decide)).trans (h.right.trans (lwI_r (by decide)).symm), fun j hj => (up_ns (by decide)).trans ((h.does j hj).trans (lwI_r (by decide)).symm), fun j hj => (up_ns (by decide)).trans ((h.slow j hj).trans (lwI_r (by decide)).symm), fun j hj => (up_ns (by decide)).trans ((h.pause j hj).trans (lwI_r (by decide)).symm), fun j hj => (up_ns (by decide)).trans ((h.kind j hj).trans (lwI_r (by decide)).symm), fun j hj => (up_ns (by decide)).trans ((h.letter j hj).trans (lwI_r (by decide)).symm), fun j hj => (up_ns (by decide)).trans ((h.base j hj).trans (lwI_r (by decide)).symm), fun j hj => (up_ns (by decide)).trans ((h.more j hj).trans (lwI_r (by decide)).symm), fun j hj => (up_ns (by decide)).trans ((h.comes j hj).trans (lwI_r (by decide)).symm), up_eq _ _ _ _ _, h6, (by rw [lwI_g]; exact ⟨fun p hp => (up_ns (by decide)).trans (hT.1 p hp), fun i hi => (up_ns (by decide)).trans (hT.2 i hi)⟩)⟩
theorem iOK_law {I : pI} {g : Nat → Int} {e : Nat → Nat} (h : iOK I) (hT : pTxt g e) : iOK (lwI I g e) := ⟨h.n, h.m, fun j hj => (by rw [show (lwI I g e).does j = I.does j from lwI_r (by decide)]; exact h.does j hj), fun j hj => (by rw [show (lwI I g e).pause j = I.pause j from lwI_r (by decide)]; exact h.pause j hj), fun j hj => (by rw [show (lwI I g e).comes j = I.comes j from lwI_r (by decide)]; exact h.comes j hj), fun j hj => (by rw [show (lwI I g e).letter j = I.letter j from lwI_r (by decide)]; exact h.letter j hj), fun j hj => (by rw [show (lwI I g e).base j = I.base j from lwI_r (by decide)]; exact h.base j hj), fun j hj => (by rw [show (lwI I g e).more j = I.more j from lwI_r (by decide)]; exact h.more j hj), (by rw [lwI_g]; exact hT)⟩
def gE : Type := Nat → (Nat → Int) × (Nat → Nat)
theorem Inv_texts {μ ρ : mj_M} (h : Inv μ ρ) : ∃ (tc : Nat) (G : gE), tc ≤ 6 ∧ μ 0 0 5 = (tc : Int) ∧ ρ 33 0 15 = (tc : Int) ∧ ∀ j, j < tc → txtC μ j (G j).1 (G j).2 ∧ txtR ρ j (G j).1 (G j).2 ∧ pTxt (G j).1 (G j).2 := by
  obtain ⟨n, m, t, tc, z, -, ⟨⟨t1, t2, t3, t4, t5, t6⟩, hT⟩, -⟩ := h
  refine ⟨tc, fun j => if q : j < tc then (Classical.choose (hT j q), Classical.choose (Classical.choose_spec (hT j q))) else (fun _ => 0, fun _ => 0), t2, t5, t6, fun j hj => ?_⟩
  dsimp only
  rw [dif_pos hj]
  have := Classical.choose_spec (Classical.choose_spec (hT j hj))
  exact this
abbrev pLw (I : pI) (G : gE) (f : Nat → Int) (j : Nat) : Prop := pJ (lwI I (G j).1 (G j).2) f = -1
theorem kd32 (d k : Nat) (hk : k < 4) (μ0 : mj_M) (I : pI) (G : gE) (tc : Nat) (f : Nat → Int) (hO : iOK I) (htc : tc ≤ 6) (htC : μ0 0 0 5 = (tc : Int)) (hT : ∀ j, j < tc → txtC μ0 j (G j).1 (G j).2 ∧ pTxt (G j).1 (G j).2) (hm : μ0 1 0 4 = (I.m : Int)) (hf : ∀ a, a < I.m → μ0 20 k a = f a) :
    ∀ j w (μ1 : mj_M) g e t o2, w + j = tc → tC μ0 μ1 (lwI I g e) t →
      mwI (kd (d + 5) 32 2 [some (v_r 0 0), some (v_i (k : Int)), o2, some (v_i (pBits (pLw I G f) w)), some (v_i (w : Int))] [] μ1) (fun x μ' => x = pBits (pLw I G f) tc ∧ fr sC μ0 μ') := by
  intro j
  induction j with
  | zero =>
    intro w μ1 g e t o2 hw h
    have e : w = tc := by omega
    rw [ke32_2, h.2.2 0 0 5 rfl, htC, if_neg (by omega), e]
    exact mwI_ret ⟨rfl, h.2.2⟩
  | succ j ih =>
    intro w μ1 g e t o2 hw h
    have hb : 0 ≤ (k : Int) ∧ (k : Int) < 4 := by omega
    have hbit := (bit_nn w (by omega)).resolve_right (by omega)
    have hp : pBits (pLw I G f) (w + 1) = if pLw I G f w then (((pBits (pLw I G f) w).toNat ||| (mj_w (1 * 2 ^ w)).toNat : Nat) : Int) else pBits (pLw I G f) w := rfl
    obtain ⟨hT1, hT2⟩ := hT w (by omega)
    have hOk : iOK (lwI I (G w).1 (G w).2) := iOK_law hO hT2
    have hT3 : txtC μ1 w (G w).1 (G w).2 := ⟨fun p hp => (h.2.2 11 w p rfl).trans (hT1.1 p hp), fun i hi => (h.2.2 10 w i rfl).trans (hT1.2 i hi)⟩
    have h1 : tC μ0 (mj_up μ1 1 2 9 (w : Int)) (lwI I (G w).1 (G w).2) w := by
      have := iC_law (x := (w : Int)) h.1 hT3
      rw [lwI_lwI] at this
      exact ⟨this, up_eq _ _ _ _ _, fr_tr h.2.2 (sC_P (frP_up rfl))⟩
    rw [ke32_2, h.2.2 0 0 5 rfl, htC, if_pos (by omega)]
    refine mwI_rV (mwV_mono (tC_live d h1 hOk (by omega)) (fun μ2 g => ?_))
    have hs := g.2.1.2.2
    rw [if_pos hb, Int.toNat_natCast, unC (t := t) (d + 4) k (f := f) hOk g.1 ((hs 1 0 4 rfl).trans hm) (fun a ha => (hs 20 k a rfl).trans (hf a ha)), rI_some]
    by_cases q : pLw I G f w
    · rw [if_pos q] at hp
      rw [if_pos q, if_pos (by omega), Int.toNat_natCast, if_pos ⟨pBits_nn _ _, hbit⟩, wk w (m := 16) (by omega) (by omega), ← hp]
      exact ih (w + 1) μ2 _ _ _ _ (by omega) g.2.1
    · rw [if_neg q] at hp
      rw [if_neg q, wk w (m := 16) (by omega) (by omega), ← hp]
      exact ih (w + 1) μ2 _ _ _ _ (by omega) g.2.1
theorem kd147 (d k : Nat) (hk : k < 4) (ρ : mj_M) (I : pI) (t0 : Nat) (G : gE) (tc : Nat) (f : Nat → Int) (hO : iOK I) (hI0 : iR ρ I t0) (htc : tc ≤ 6) (htC : ρ 33 0 15 = (tc : Int)) (hT : ∀ j, j < tc → txtR ρ j (G j).1 (G j).2 ∧ pTxt (G j).1 (G j).2) (hf : ∀ a, a < I.m → ρ 47 0 (40 * k + a) = f a) :
    ∀ j w (ρ1 : mj_M) g e t o2, w + j = tc → iR ρ1 (lwI I g e) t → fr (fX sR 33 0 16) ρ ρ1 →
      mwI (kd (d + 8) 147 2 [some (v_r 33 0), some (v_i (k : Int)), o2, some (v_i (t0 : Int)), some (v_i (pBits (pLw I G f) w)), some (v_i (w : Int))] [] ρ1) (fun x ρ' => x = pBits (pLw I G f) tc ∧ fr sR ρ ρ') := by
  intro j
  induction j with
  | zero =>
    intro w ρ1 g e t o2 hw h hf1
    have e : w = tc := by omega
    rw [ke147_2, hf1 33 0 15 rfl, htC, if_neg (by omega), e]
    exact mwI_ret ⟨rfl, fX_back hf1 hI0.rule.symm⟩
  | succ j ih =>
    intro w ρ1 g e t o2 hw h hf1
    have hbit := (bit_nn w (by omega)).resolve_right (by omega)
    have hp : pBits (pLw I G f) (w + 1) = if pLw I G f w then (((pBits (pLw I G f) w).toNat ||| (mj_w (1 * 2 ^ w)).toNat : Nat) : Int) else pBits (pLw I G f) w := rfl
    obtain ⟨hT1, hT2⟩ := hT w (by omega)
    have hOk : iOK (lwI I (G w).1 (G w).2) := iOK_law hO hT2
    have hT3 : txtR ρ1 w (G w).1 (G w).2 := ⟨fun p hp => (hf1 42 0 _ rfl).trans (hT1.1 p hp), fun i hi => (hf1 41 0 _ rfl).trans (hT1.2 i hi)⟩
    have h1 : iR (mj_up ρ1 33 0 16 (w : Int)) (lwI I (G w).1 (G w).2) w := by
      have := iR_law h (show w < 6 by omega) hT3
      rw [lwI_lwI] at this; exact this
    rw [ke147_2, hf1 33 0 15 rfl, htC, if_pos (by omega)]
    refine mwI_rI (mwI_mono (unR d k hk (f := f) hOk h1 (fun a ha => by rw [up_ns (by decide)]; exact (hf1 47 0 _ rfl).trans (hf a ha))) (fun x ρ2 g => ?_))
    obtain ⟨rfl, g2, g3⟩ := g
    have hf2 : fr (fX sR 33 0 16) ρ ρ2 := fr_tr (fr_tr hf1 fX_up) (fX_fr (sR_S g3 (by decide)))
    by_cases q : pLw I G f w
    · rw [if_pos q] at hp
      rw [if_pos q, if_pos (by omega), Int.toNat_natCast, if_pos ⟨pBits_nn _ _, hbit⟩, wk w (m := 16) (by omega) (by omega), ← hp]
      exact ih (w + 1) ρ2 _ _ _ _ (by omega) g2 hf2
    · rw [if_neg q] at hp
      rw [if_neg q, if_pos ⟨pBits_nn _ _, Int.le_refl _⟩, or_0 (pBits_nn _ _), wk w (m := 16) (by omega) (by omega), ← hp]
      exact ih (w + 1) ρ2 _ _ _ _ (by omega) g2 hf2
theorem op_laws (d : Nat) (s : Int) {μ ρ : mj_M} (h : Inv μ ρ) : mw2 (kc (d + 20) 32 [v_r 0 0, v_i s] μ) (kc (d + 20) 147 [v_r 33 0, v_i s] ρ) := by
  obtain ⟨I, t, hD, -⟩ := Inv_day h
  obtain ⟨n4, m16, t6, cn, rn, cm, rm⟩ := dAll_n hD
  obtain ⟨tc, G, htc, hc5, hr15, hT⟩ := Inv_texts h
  obtain ⟨x, e1, e2, hx⟩ := refuse (d + 16) (d + 17) s h cm rm
  rw [ke32_0, ke147_0, e1, e2, rI_some, rI_some]
  by_cases q : x = 0
  · obtain ⟨k, rfl, hk, hsz⟩ := hx q
    obtain ⟨-, -, hcell⟩ := Inv_sh h k hk
    rw [if_pos q, if_pos q, hD.2.1.rule]
    refine mw2_of (x := pBits (pLw I G (μ 20 k)) tc) h ?_ ?_
    · refine mwI_rV (mwV_mono (tC_plan (d + 17) hD fr_rf) (fun μ1 g1 => ?_))
      exact kd32 (d + 14) k hk μ I G tc (μ 20 k) hD.2.2.1 htc hc5 (fun j hj => ⟨(hT j hj).1, (hT j hj).2.2⟩) cm (fun _ _ => rfl) tc 0 μ1 I.g I.e t _ (by omega) (by rw [lwI_id]; exact g1.1)
    · exact kd147 (d + 11) k hk ρ I t G tc (μ 20 k) hD.2.2.1 hD.2.1 htc hr15 (fun j hj => (hT j hj).2) (fun a ha => (hcell a (by omega)).1) tc 0 ρ I.g I.e t _ (by omega) (by rw [lwI_id]; exact hD.2.1) fr_rf
  · rw [if_neg q, if_neg q]; exact mw2_same _ h
