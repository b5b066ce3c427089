/-! stop -/
theorem pBest_cg {P Q : Nat → Prop} [∀ k, Decidable (P k)] [∀ k, Decidable (Q k)] {key key' : Nat → Int} (h : ∀ k, P k ↔ Q k) (hk : key = key') : ∀ k, pBest P key k = pBest Q key' k
  | 0 => rfl
  | k + 1 => by
    subst hk
    unfold pBest
    rw [pBest_cg h rfl k]
    by_cases q : P k
    · rw [if_pos q, if_pos ((h k).1 q)]
    · rw [if_neg q, if_neg (fun w => q ((h k).2 w))]
theorem pCounters_stop (I : pI) (x y t : Int) (Z : pZ) : ∀ c, pCounters (uI I 0 2 x) t c Z = pCounters (uI I 0 2 y) t c Z
  | 0 => rfl
  | c + 1 => by
    show pCounter (uI I 0 2 x) t c (pCounters (uI I 0 2 x) t c Z) = pCounter (uI I 0 2 y) t c (pCounters (uI I 0 2 y) t c Z)
    rw [pCounters_stop I x y t Z c]
    rfl
theorem pComes_stop {I : pI} {s : Int} (h : ∀ a, a < I.m → I.comes a ≠ s) (t : Int) (Z : pZ) : pComes (uI I 0 2 s) t Z = pComes (uI I 0 2 (s + 1)) t Z := by
  funext r a
  show (if r = 0 ∧ a < I.m ∧ I.comes a = t then (if t < s then (1 : Int) else 4) else Z r a) = (if r = 0 ∧ a < I.m ∧ I.comes a = t then (if t < s + 1 then 1 else 4) else Z r a)
  by_cases q : r = 0 ∧ a < I.m ∧ I.comes a = t
  · rw [if_pos q, if_pos q]
    have := h a q.2.1
    by_cases w : t < s
    · rw [if_pos w, if_pos (by omega)]
    · rw [if_neg w, if_neg (by omega)]
  · rw [if_neg q, if_neg q]
theorem pDay_stop {I : pI} {s : Int} (h : ∀ a, a < I.m → I.comes a ≠ s) : ∀ t, pDay (uI I 0 2 s) t = pDay (uI I 0 2 (s + 1)) t
  | 0 => rfl
  | t + 1 => by
    show pCounters (uI I 0 2 s) (t : Int) I.n (pComes (uI I 0 2 s) (t : Int) (pDay (uI I 0 2 s) t)) = pCounters (uI I 0 2 (s + 1)) (t : Int) I.n (pComes (uI I 0 2 (s + 1)) (t : Int) (pDay (uI I 0 2 (s + 1)) t))
    rw [pDay_stop h t, pComes_stop h, pCounters_stop]
abbrev gOver (I : pI) (by_ : Int) : Prop := pMax (pLife I 3) I.m ≤ by_ ∧ pMany (pLife I 0) 1 I.m = 0
abbrev gStop (I : pI) (by_ : Int) (k : Nat) : Prop := gOver (uI I 0 2 (k : Int)) by_
def pSt (P : Nat → Prop) [∀ k, Decidable (P k)] : Nat → Int
  | 0 => -1
  | k + 1 => if P k then (k : Int) else pSt P k
theorem overC (d : Nat) (v : Int) {μ : mj_M} {I : pI} {t : Nat} (hO : iOK I) (hZ : zC μ I (pLife I)) (hI : iC μ 2 I t) : kc (d + 2) 186 [v_r 21 0, v_i v] μ = some (some (v_i (b01 (gOver I v))), μ) := by
  rw [kc186 d v μ hI.m hO.m, pMax_cg (f := μ 24 0) (g := pLife I 3) (fun a ha => zC_a hZ ha 3 (by decide)), pMany_cg (f := μ 22 0) (g := pLife I 0) (fun a ha => zC_a hZ ha 0 (by decide))]
theorem kd62 (d : Nat) (s : Int) (μ : mj_M) (m : Nat) (hm : μ 1 0 4 = (m : Int)) (h16 : m ≤ 16) : ∀ j k, k + j = m → (∀ a, a < k → μ 5 0 a ≠ s) → mwI (kd d 62 1 [some (v_r 0 0), some (v_i s), some (v_i (k : Int))] [] μ) (fun x μ' => μ' = μ ∧ (x = 0 → ∀ a, a < m → μ 5 0 a ≠ s)) := by
  intro j
  induction j with
  | zero =>
    intro k hk h
    have e : k = m := by omega
    rw [ke62_1, hm, if_neg (by omega)]
    exact mwI_ret ⟨rfl, fun _ => e ▸ h⟩
  | succ j ih =>
    intro k hk h
    rw [ke62_1, hm, if_pos (by omega), if_pos (by omega), Int.toNat_natCast]
    by_cases q : μ 5 0 k = s
    · rw [if_pos q]; exact mwI_ret ⟨rfl, fun w => absurd w (by decide)⟩
    · rw [if_neg q, wk4' k (by omega)]
      refine ih (k + 1) (by omega) (fun a ha => ?_)
      by_cases e : a = k
      · rw [e]; exact q
      · exact h a (by omega)
theorem kc62 (d : Nat) (s : Int) (μ : mj_M) (m : Nat) (hm : μ 1 0 4 = (m : Int)) (h16 : m ≤ 16) : mwI (kc (d + 1) 62 [v_r 0 0, v_i s] μ) (fun x μ' => μ' = μ ∧ (x = 0 → ∀ a, a < m → μ 5 0 a ≠ s)) := by
  rw [ke62_0]
  exact kd62 d s μ m hm h16 m 0 (by omega) (fun a ha => absurd ha (Nat.not_lt_zero a))
theorem wpred (k : Nat) (h : k < 1000) : ((k + 1 : Nat) : Int) - 1 = (k : Int) ∧ mj_w ((k : Int) + -1) = (k : Int) - 1 := by
  refine ⟨by omega, ?_⟩
  rw [wi (by omega) (by omega)]; omega
theorem kd20 (d : Nat) (v : Int) (μ0 : mj_M) (I : pI) (t : Nat) (hO : iOK I) (h6 : t < 6) (hm : μ0 1 0 4 = (I.m : Int)) (hc : ∀ a, a < I.m → μ0 5 0 a = I.comes a) :
    ∀ (k : Nat) (μ1 : mj_M) (y : Int), k ≤ 121 → (k = 121 ∨ ¬ gStop I v k) → tC μ0 μ1 (uI I 0 2 y) t →
      mwI (kd (d + 5) 20 2 [some (v_r 0 0), some (v_i v), some (v_i ((k : Int) - 1))] [] μ1) (fun x μ' => x = pSt (gStop I v) k ∧ fr sC μ0 μ') := by
  intro k
  induction k with
  | zero =>
    intro μ1 y hk hg h
    rw [ke20_2, if_pos (by omega)]
    exact mwI_ret ⟨rfl, h.2.2⟩
  | succ k ih =>
    intro μ1 y hk hg h
    have hOk : iOK (uI I 0 2 (k : Int)) := iOK_hall_u hO
    have h3 : ∀ μ1 y, tC μ0 μ1 (uI I 0 2 y) t → mwI (kd (d + 5) 20 3 [some (v_r 0 0), some (v_i v), some (v_i (k : Int))] [] μ1) (fun x μ' => x = pSt (gStop I v) (k + 1) ∧ fr sC μ0 μ') := by
      intro μ1 y h
      have h1 : tC μ0 (mj_up μ1 1 2 8 (k : Int)) (uI I 0 2 (k : Int)) t := by
        have := tC_set h (iC_stop' (x := (k : Int)) h.1) rfl (Or.inr (by decide))
        rw [uI_uI] at this; exact this
      rw [ke20_3]
      refine mwI_rV (mwV_mono (tC_live d h1 hOk h6) (fun μ2 g => ?_))
      rw [overC (d + 3) v hOk g.1 g.2.1.1, rI_some]
      by_cases q : gStop I v k
      · rw [b01_t q, if_neg n10]
        exact mwI_ret ⟨(if_pos q).symm, g.2.1.2.2⟩
      · rw [b01_f q, if_pos rfl, (wpred k (by omega)).2]
        have := ih μ2 _ (by omega) (Or.inr q) g.2.1
        rw [show pSt (gStop I v) (k + 1) = pSt (gStop I v) k from if_neg q]
        exact this
    rw [ke20_2, (wpred k (by omega)).1, if_neg (by omega)]
    by_cases k0 : (k : Int) < 120
    · rw [if_pos k0]
      refine mwI_rI (mwI_mono (kc62 (d + 4) (k : Int) μ1 I.m ((h.2.2 1 0 4 rfl).trans hm) hO.m) (fun x μ2 g => ?_))
      obtain ⟨rfl, g⟩ := g
      by_cases x0 : x = 0
      · have hno : ∀ a, a < I.m → I.comes a ≠ (k : Int) := fun a ha => by
          have := g x0 a ha
          rw [h.2.2 5 0 a rfl, hc a ha] at this; exact this
        have hq : ¬ gStop I v k := by
          have h2 := hg.resolve_left (by omega)
          unfold gStop gOver pLife at h2 ⊢
          rw [show ((k + 1 : Nat) : Int) = (k : Int) + 1 from by omega, ← pDay_stop hno] at h2
          exact h2
        rw [if_pos x0, (wpred k (by omega)).2]
        have := ih μ2 y (by omega) (Or.inr hq) h
        rw [show pSt (gStop I v) (k + 1) = pSt (gStop I v) k from if_neg hq]
        exact this
      · rw [if_neg x0]; exact h3 _ _ h
    · rw [if_neg k0]; exact h3 _ _ h
theorem kd129 (d : Nat) (v : Int) (ρ : mj_M) (I : pI) (t : Nat) (hO : iOK I) (hI0 : iR ρ I t) :
    ∀ (k : Nat) (ρ1 : mj_M) (y : Int), k ≤ 121 → iR ρ1 (uI I 0 2 y) t → fr (fX sR 33 0 4) ρ ρ1 →
      mwI (kd (d + 7) 129 2 [some (v_r 33 0), some (v_i v), some (v_i I.stop), some (v_i (-1)), some (v_i ((k : Int) - 1))] [] ρ1) (fun x ρ' => x = pSt (gStop I v) k ∧ fr sR ρ ρ') := by
  have hm := hO.m
  intro k
  induction k with
  | zero =>
    intro ρ1 y hk h hf
    rw [ke129_2, if_pos (by omega)]
    exact mwI_ret ⟨rfl, fX_back hf hI0.stop.symm⟩
  | succ k ih =>
    intro ρ1 y hk h hf
    have hOk : iOK (uI I 0 2 (k : Int)) := iOK_hall_u hO
    have h1 : iR (mj_up ρ1 33 0 4 (k : Int)) (uI I 0 2 (k : Int)) t := by
      have := iR_stop' (x := (k : Int)) h
      rw [uI_uI] at this; exact this
    rw [ke129_2, (wpred k (by omega)).1, if_neg (by omega), if_pos rfl]
    refine mwI_rV (mwV_mono (kc112 d (uI I 0 2 (k : Int)) t _ hOk h1) (fun ρ2 g => ?_))
    have hI2 := iR_fr h1 g.2 (by decide)
    have hf2 : fr (fX sR 33 0 4) ρ ρ2 := fr_tr (fr_tr hf fX_up) (fX_fr (sR_S g.2 (by decide)))
    have hm17 : (uI I 0 2 (k : Int)).m ≤ 17 := by show I.m ≤ 17; omega
    rw [kc117 (d + 6) ρ2 hI2.m hm17, rI_some, kc115 (d + 6) 1 ρ2 hI2.m hm17, rI_some, pMax_cg (f := ρ2 56 0) (g := pLife (uI I 0 2 (k : Int)) 3) (fun a ha => zR_a g.1 ha 3 (by decide)), pMany_cg (f := ρ2 53 0) (g := pLife (uI I 0 2 (k : Int)) 0) (fun a ha => zR_a g.1 ha 0 (by decide)), (wpred k (by omega)).2]
    have no : ¬ gStop I v k → mwI (kd (d + 7) 129 2 [some (v_r 33 0), some (v_i v), some (v_i I.stop), some (v_i (-1)), some (v_i ((k : Int) - 1))] [] ρ2) (fun x ρ' => x = pSt (gStop I v) (k + 1) ∧ fr sR ρ ρ') := by
      intro q
      rw [show pSt (gStop I v) (k + 1) = pSt (gStop I v) k from if_neg q]
      exact ih ρ2 _ (by omega) hI2 hf2
    by_cases q1 : v < pMax (pLife (uI I 0 2 (k : Int)) 3) (uI I 0 2 (k : Int)).m
    · rw [if_pos q1]
      exact no (fun w => by have := w.1; omega)
    · rw [if_neg q1]
      by_cases q2 : pMany (pLife (uI I 0 2 (k : Int)) 0) 1 (uI I 0 2 (k : Int)).m = 0
      · have q : gStop I v k := ⟨by omega, q2⟩
        have hfin : fr sR ρ (mj_up ρ2 33 0 4 I.stop) := fX_back hf2 hI0.stop.symm
        rw [if_pos q2, show pSt (gStop I v) (k + 1) = (k : Int) from if_pos q, ke129_2]
        by_cases k0 : (k : Int) - 1 < 0
        · rw [if_pos k0]; exact mwI_ret ⟨rfl, hfin⟩
        · rw [if_neg k0, if_neg (by omega)]; exact mwI_ret ⟨rfl, hfin⟩
      · rw [if_neg q2]; exact no (fun w => q2 w.2)
theorem op_stop (d : Nat) (v : Int) {μ ρ : mj_M} (h : Inv μ ρ) : mw2 (kc (d + 20) 20 [v_r 0 0, v_i v] μ) (kc (d + 20) 129 [v_r 33 0, v_i v] ρ) := by
  obtain ⟨I, t, hD, -⟩ := Inv_day h
  obtain ⟨n4, m16, t6, cn, rn, cm, rm⟩ := dAll_n hD
  rw [ke20_0, ke129_0, kc44, kc72, rI_some, rI_some]
  by_cases qw : 0 ≤ v ∧ v ≤ 999
  · rw [b01_t qw, if_neg n10, if_neg n10, hD.2.1.stop]
    refine mw2_of (x := pSt (gStop I v) 121) h ?_ ?_
    · refine mwI_rV (mwV_mono (tC_plan (d + 17) hD fr_rf) (fun μ2 g2 => ?_))
      exact kd20 (d + 14) v μ I t hD.2.2.1 t6 cm (fun a ha => hD.1.comes a ha) 121 μ2 I.stop (Nat.le_refl _) (Or.inl rfl) (by rw [uI_stop0]; exact g2.1)
    · exact kd129 (d + 12) v ρ I t hD.2.2.1 hD.2.1 121 ρ I.stop (Nat.le_refl _) (by rw [uI_stop0]; exact hD.2.1) fr_rf
  · rw [b01_f qw, if_pos rfl, if_pos rfl]; exact mw2_same _ h
