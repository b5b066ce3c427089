/-! drawn, odds -/
def pLot (s : Int) : Nat → Int
  | 0 => mj_x (s + 1)
  | k + 1 => (mj_x (pLot s k * 48271)).tmod 2147483647
def pDr (I : pI) (s : Int) (a : Nat) : Int := clampI (mj_w (I.comes a + mj_w (mj_w ((pLot s (a + 1)).tmod 21) - 10))) 0 119
theorem clamp_b (x : Int) : 0 ≤ clampI x 0 119 ∧ clampI x 0 119 ≤ 119 := by
  unfold clampI
  split
  · omega
  · split <;> omega
theorem dr_r (c l : Int) (h : 0 ≤ c ∧ c ≤ 119) : mj_w (mj_w (c + mj_w (l.tmod 21)) - 10) = mj_w (c + mj_w (mj_w (l.tmod 21) - 10)) := by
  have h1 := Int.natAbs_tmod l 21
  have h2 : l.natAbs % (21 : Int).natAbs < 21 := Nat.mod_lt _ (by decide)
  generalize l.tmod 21 = x at h1 ⊢
  have h3 : -21 < x ∧ x < 21 := by omega
  rw [wi (z := x) (by omega) (by omega), wi (z := c + x) (by omega) (by omega), wi (z := x - 10) (by omega) (by omega), wi (z := c + x - 10) (by omega) (by omega), wi (by omega) (by omega)]
  omega
def dK (I : pI) (s : Int) (k : Nat) : pI := (I.1, (fun r a => if r = 4 ∧ a < k then pDr I s a else I.2.1 r a), I.2.2)
theorem dK_0 (I : pI) (s : Int) : dK I s 0 = I := by
  have : (fun r a => if r = 4 ∧ a < 0 then pDr I s a else I.2.1 r a) = I.2.1 := by
    funext r a
    rw [if_neg (fun h => absurd h.2 (Nat.not_lt_zero a))]
  exact (congrArg (fun Z => ((I.1, Z, I.2.2) : pI)) this).trans rfl
theorem dK_s (I : pI) (s : Int) (k : Nat) : uI (dK I s k) 4 k (pDr I s k) = dK I s (k + 1) := by
  refine congrArg (fun Z => ((I.1, Z, I.2.2) : pI)) ?_
  funext r a
  show (if r = 4 ∧ a = k then pDr I s k else if r = 4 ∧ a < k then pDr I s a else I.2.1 r a) = if r = 4 ∧ a < k + 1 then pDr I s a else I.2.1 r a
  by_cases q : r = 4 ∧ a = k
  · rw [if_pos q, if_pos ⟨q.1, by omega⟩, q.2]
  · rw [if_neg q]
    by_cases w : r = 4 ∧ a < k
    · rw [if_pos w, if_pos ⟨w.1, by omega⟩]
    · rw [if_neg w, if_neg (fun v => w ⟨v.1, by have := v.2; have : a ≠ k := fun e => q ⟨v.1, e⟩; omega⟩)]
theorem iOK_dK {I : pI} (h : iOK I) (s : Int) : ∀ k, iOK (dK I s k)
  | 0 => by rw [dK_0]; exact h
  | k + 1 => by rw [← dK_s]; exact iOK_comes_u (iOK_dK h s k) (clamp_b _)
theorem kc59 (d : Nat) (s : Int) {μ ρ : mj_M} {I : pI} {t : Nat} (hD : dAll μ ρ I t) : mwV (kc (d + 3) 59 [v_r 0 0, v_i s] μ) (fun μ' => tC μ μ' (dK I s I.m) t) := by
  have hm := hD.2.2.1.m
  rw [ke59_0]
  refine mwV_rV (mwV_mono (tC_plan d hD fr_rf) (fun μ1 g1 => ?_))
  have key : ∀ j k (o1 o3 o5 : Option mj_V) (μ1 : mj_M), k + j = I.m → tC μ μ1 (dK I s k) t → mwV (kd (d + 2) 59 1 [some (v_r 0 0), o1, some (v_l (pLot s k)), o3, some (v_i (k : Int)), o5] [] μ1) (fun μ' => tC μ μ' (dK I s I.m) t) := by
    intro j
    induction j with
    | zero =>
      intro k o1 o3 o5 μ1 hk h
      have e : k = I.m := by omega
      rw [ke59_1, (h.2.2 1 0 4 rfl).trans hD.1.m, if_neg (by omega)]
      exact mwV_ret (e ▸ h)
    | succ j ih =>
      intro k o1 o3 o5 μ1 hk h
      have hkm : k < I.m := by omega
      have hb : 0 ≤ (k : Int) ∧ (k : Int) < 16 := by omega
      have hc : μ1 5 0 k = I.comes k := (h.2.2 5 0 k rfl).trans (hD.1.comes k hkm)
      have hl : pLot s (k + 1) = (mj_x (pLot s k * 48271)).tmod 2147483647 := rfl
      have hd : pDr I s k = clampI (mj_w (I.comes k + mj_w (mj_w ((pLot s (k + 1)).tmod 21) - 10))) 0 119 := rfl
      rw [ke59_1, (h.2.2 1 0 4 rfl).trans hD.1.m, if_pos (by omega), if_pos hb, Int.toNat_natCast, hc, kc45, rI_some, if_pos hb, wk k (m := 16) (by omega) (by omega), ← hl, ← hd]
      refine ih (k + 1) _ _ _ _ (by omega) ?_
      have := tC_set h (iC_comes (x := pDr I s k) (c := k) h.1) rfl (Or.inl (by decide))
      rw [dK_s] at this; exact this
  exact key I.m 0 _ _ _ μ1 (by omega) (by rw [dK_0]; exact g1.1)
def P39 (m : Nat) : Nat → Nat → Nat → Bool := fun s i k => sR s i k || (s == 39 && (i == 0 && decide (k < m)))
theorem P39_sR {m : Nat} {ρ ρ' : mj_M} (h : fr sR ρ ρ') : fr (P39 m) ρ ρ' := fr_mono h (fun a b c q => by unfold P39 at q; rw [Bool.or_eq_false_iff] at q; exact q.1)
theorem kc150 (d : Nat) (s : Int) {ρ : mj_M} {I : pI} {t : Nat} (hO : iOK I) (hI : iR ρ I t) : mwV (kc (d + 8) 150 [v_r 33 0, v_i s] ρ) (fun ρ' => zR ρ' (dK I s I.m) (pLife (dK I s I.m)) ∧ iR ρ' (dK I s I.m) t ∧ fr (P39 I.m) ρ ρ' ∧ ∀ a, a < I.m → ρ' 62 0 a = ρ 39 0 a) := by
  have hm := hO.m
  rw [ke150_0]
  have key : ∀ j k (o1 o3 : Option mj_V) (ρ1 : mj_M), k + j = I.m → iR ρ1 (dK I s k) t → fr (P39 I.m) ρ ρ1 → (∀ a, a < k → ρ1 62 0 a = ρ 39 0 a) → (∀ a, k ≤ a → ρ1 39 0 a = ρ 39 0 a) → mwV (kd (d + 7) 150 1 [some (v_r 33 0), o1, some (v_l (pLot s k)), o3, some (v_i (k : Int))] [] ρ1) (fun ρ' => zR ρ' (dK I s I.m) (pLife (dK I s I.m)) ∧ iR ρ' (dK I s I.m) t ∧ fr (P39 I.m) ρ ρ' ∧ ∀ a, a < I.m → ρ' 62 0 a = ρ 39 0 a) := by
    intro j
    induction j with
    | zero =>
      intro k o1 o3 ρ1 hk h hf h62 h39
      have e : k = I.m := by omega
      subst e
      rw [ke150_1, h.m, if_neg (show ¬ ((I.m : Int) < ((dK I s I.m).m : Int)) from Int.lt_irrefl _)]
      refine mwV_rV (mwV_mono (kc112 d (dK I s I.m) t ρ1 (iOK_dK hO s I.m) h) (fun ρ2 g => ?_))
      exact mwV_ret ⟨g.1, iR_fr h g.2 (by decide), fr_tr hf (P39_sR (sR_S g.2 (by decide))), fun a ha => by rw [fS_rd g.2 rfl]; exact h62 a ha⟩
    | succ j ih =>
      intro k o1 o3 ρ1 hk h hf h62 h39
      have hkm : k < I.m := by omega
      have hb : 0 ≤ (k : Int) ∧ (k : Int) < 17 := by omega
      have h39k := h39 k (Nat.le_refl _)
      have hc : ρ 39 0 k = I.comes k := hI.comes k hkm
      have hl : pLot s (k + 1) = (mj_x (pLot s k * 48271)).tmod 2147483647 := rfl
      have hd : pDr I s k = clampI (mj_w (I.comes k + mj_w (mj_w ((pLot s (k + 1)).tmod 21) - 10))) 0 119 := rfl
      rw [ke150_1, h.m, if_pos (show (k : Int) < ((dK I s k).m : Int) from Int.ofNat_lt.mpr hkm), if_pos hb, if_pos hb, if_pos hb, Int.toNat_natCast, h39k, hc, kc73, rI_some, if_pos hb, wk k (m := 16) (by omega) (by omega), dr_r _ _ (hO.comes k hkm), ← hl, ← hd]
      refine ih (k + 1) _ _ _ (by omega) ?_ (fr_tr (fr_tr hf (fr_up (by simp [P39, sR]))) (fr_up (by simp [P39]; exact Or.inr hkm))) (fun a ha => ?_) (fun a ha => ?_)
      · have h1 : iR (mj_up ρ1 62 0 k (I.comes k)) (dK I s k) t := iR_sR h (fr_up rfl)
        have := iR_comes (x := pDr I s k) (c := k) h1
        rw [dK_s] at this; exact this
      · rw [up_ns (by decide)]
        by_cases e : a = k
        · rw [e, up_eq, hc]
        · rw [up_nk e]; exact h62 a (by omega)
      · rw [up_nk (by omega), up_ns (by decide)]; exact h39 a (by omega)
  exact key I.m 0 _ _ ρ (by omega) (by rw [dK_0]; exact hI) fr_rf (fun a ha => absurd ha (Nat.not_lt_zero a)) (fun _ _ => rfl)
theorem kc151 (d : Nat) {ρ ρ1 : mj_M} {m : Nat} (hm : ρ1 33 0 5 = (m : Int)) (h16 : m ≤ 16) (hf : fr (P39 m) ρ ρ1) (h62 : ∀ a, a < m → ρ1 62 0 a = ρ 39 0 a) : mwV (kc (d + 1) 151 [v_r 33 0] ρ1) (fun ρ' => fr sR ρ ρ') := by
  rw [ke151_0]
  have key : ∀ j k (ρ2 : mj_M), k + j = m → (∀ s i k, s ≠ 39 → ρ2 s i k = ρ1 s i k) → fr (P39 m) ρ ρ2 → (∀ a, a < k → ρ2 39 0 a = ρ 39 0 a) → mwV (kd d 151 1 [some (v_r 33 0), some (v_i (k : Int))] [] ρ2) (fun ρ' => fr sR ρ ρ') := by
    intro j
    induction j with
    | zero =>
      intro k ρ2 hk h1 h2 h3
      have e : k = m := by omega
      rw [ke151_1, (h1 33 0 5 (by decide)).trans hm, if_neg (by omega)]
      refine mwV_ret (fun a b c q => ?_)
      by_cases w : a = 39 ∧ b = 0 ∧ c < m
      · rw [w.1, w.2.1]; exact h3 c (by omega)
      · refine h2 a b c ?_
        unfold P39
        rw [q, Bool.false_or]
        simp
        intro x y
        have : ¬ c < m := fun z => w ⟨x, y, z⟩
        omega
    | succ j ih =>
      intro k ρ2 hk h1 h2 h3
      rw [ke151_1, (h1 33 0 5 (by decide)).trans hm, if_pos (by omega), if_pos (by omega), if_pos (by omega), Int.toNat_natCast, wk k (m := 16) (by omega) (by omega), h1 62 0 k (by decide), h62 k (by omega)]
      refine ih (k + 1) _ (by omega) (fun s i j hs => by rw [up_ns hs]; exact h1 s i j hs) (fr_tr h2 (fr_up (by simp [P39]; omega))) (fun a ha => ?_)
      by_cases e : a = k
      · rw [e, up_eq]
      · rw [up_nk e]; exact h3 a (by omega)
  exact key m 0 ρ1 (by omega) (fun _ _ _ _ => rfl) hf (fun a ha => absurd ha (Nat.not_lt_zero a))
theorem totC (d : Nat) (w : Int) {μ : mj_M} {I : pI} {t : Nat} (hO : iOK I) (hZ : zC μ I (pLife I)) (hI : iC μ 2 I t) : kc (d + 3) 187 [v_r 21 0, v_i w] μ = some (some (v_i (pTotI I w)), μ) := by
  rw [kc187 d w μ hI.m hO.m hI.n hO.n]
  unfold pTotI
  rw [pTot_cg (f := μ 22 0) (b := μ 23 0) (e := μ 24 0) (fun a ha => ⟨zC_a hZ ha 0 (by decide), zC_a hZ ha 2 (by decide), zC_a hZ ha 3 (by decide), hI.comes a ha⟩), show pSum (μ 27 0) I.n = pSum (pLife I 7) I.n from pSum_cg (fun c hc => zC_c hZ hc 7 (by decide) (by decide))]
theorem totR (d : Nat) (w : Int) {ρ : mj_M} {I : pI} {t : Nat} (hO : iOK I) (hZ : zR ρ I (pLife I)) (hI : iR ρ I t) : kc (d + 3) 119 [v_r 33 0, v_i w] ρ = some (some (v_i (pTotI I w)), ρ) := by
  have hm := hO.m
  rw [kc119 d w ρ hI.m (by omega)]
  have hz : ∀ c, c < 4 → ρ 60 0 c = pLife I 7 c := fun c hc => zR_c hZ hc 7 (by decide) (by decide)
  unfold pTotI
  rw [hz 0 (by decide), hz 1 (by decide), hz 2 (by decide), hz 3 (by decide), ← idle_sum (show zI I (pLife I) from zI_day I 240) hO.n, pTot_cg (f := ρ 53 0) (b := ρ 55 0) (e := ρ 56 0) (fun a ha => ⟨zR_a hZ ha 0 (by decide), zR_a hZ ha 2 (by decide), zR_a hZ ha 3 (by decide), hI.comes a ha⟩)]
theorem op_drawn (d : Nat) (s w : Int) {μ ρ : mj_M} (h : Inv μ ρ) : mw2 (kc (d + 20) 35 [v_r 0 0, v_i s, v_i w] μ) (kc (d + 20) 152 [v_r 33 0, v_i s, v_i w] ρ) := by
  obtain ⟨I, t, hD, -⟩ := Inv_day h
  obtain ⟨n4, m16, t6, cn, rn, cm, rm⟩ := dAll_n hD
  rw [ke35_0, ke152_0, kc44, kc72, rI_some, rI_some]
  by_cases q1 : 0 ≤ s ∧ s ≤ 99999
  · rw [b01_t q1, if_neg n10, if_neg n10, kc44, kc72, rI_some, rI_some]
    by_cases q2 : 0 ≤ w ∧ w ≤ 7
    · have hO := iOK_dK hD.2.2.1 s I.m
      rw [b01_t q2, if_neg n10, if_neg n10]
      refine mw2_of (x := pTotI (dK I s I.m) w) h ?_ ?_
      · refine mwI_rV (mwV_mono (kc59 (d + 16) s hD) (fun μ1 g => ?_))
        refine mwI_rV (mwV_mono (tC_live (d + 14) g hO t6) (fun μ2 g2 => ?_))
        rw [totC (d + 16) w hO g2.1 g2.2.1.1, rI_some]
        exact mwI_ret ⟨rfl, g2.2.1.2.2⟩
      · refine mwI_rV (mwV_mono (kc150 (d + 11) s hD.2.2.1 hD.2.1) (fun ρ1 g => ?_))
        obtain ⟨g1, g2, g3, g4⟩ := g
        rw [totR (d + 16) w hO g1 g2, rI_some]
        refine mwI_rV (mwV_mono (kc151 (d + 18) (g2.m : ρ1 33 0 5 = (I.m : Int)) m16 g3 g4) (fun ρ2 g5 => ?_))
        exact mwI_ret ⟨rfl, g5⟩
    · rw [b01_f q2, if_pos rfl, if_pos rfl]; exact mw2_same _ h
  · rw [b01_f q1, if_pos rfl, if_pos rfl]; exact mw2_same _ h
/-! odds -/
abbrev gLot (I : pI) (s v : Int) (i : Nat) : Prop := gOver (dK I (s + (i : Int)) I.m) v
def pCnt (P : Nat → Prop) [∀ k, Decidable (P k)] : Nat → Nat
  | 0 => 0
  | k + 1 => if P k then pCnt P k + 1 else pCnt P k
theorem pCnt_le (P : Nat → Prop) [∀ k, Decidable (P k)] : ∀ k, pCnt P k ≤ k
  | 0 => Nat.le_refl _
  | k + 1 => by
    have := pCnt_le P k
    unfold pCnt
    split <;> omega
def pCd (a b : Nat) : Nat → Nat
  | 0 => 1
  | d + 1 => if d = 0 then 1 else if a % (d + 1) = 0 ∧ b % (d + 1) = 0 then d + 1 else pCd a b d
def pEu : Nat → Nat → Nat → Nat
  | 0, a, _ => a
  | f + 1, a, b => if b = 0 then a else pEu f b (a % b)
theorem tm_n (a b : Nat) : (a : Int).tmod (b : Int) = ((a % b : Nat) : Int) := rfl
theorem td_n (a b : Nat) : (a : Int).tdiv (b : Int) = ((a / b : Nat) : Int) := rfl
theorem kd71 (d a b : Nat) (μ : mj_M) : ∀ k : Nat, k ≤ 1000 → kd d 71 1 [some (v_i (a : Int)), some (v_i (b : Int)), some (v_i (k : Int))] [] μ = some (some (v_i (pCd a b k : Int)), μ) := by
  intro k
  induction k with
  | zero => intro hk; rw [ke71_1, if_neg (by omega)]; rfl
  | succ k ih =>
    intro hk
    have e : mj_w (((k + 1 : Nat) : Int) + -1) = (k : Int) := by rw [wi (by omega) (by omega)]; omega
    have hp : pCd a b (k + 1) = if k = 0 then 1 else if a % (k + 1) = 0 ∧ b % (k + 1) = 0 then k + 1 else pCd a b k := rfl
    rw [ke71_1, tm_n, tm_n, e]
    by_cases q : k = 0
    · rw [if_neg (by omega), hp, if_pos q]; rfl
    · rw [if_pos (by omega), if_neg (by omega), hp, if_neg q]
      by_cases q1 : a % (k + 1) = 0
      · rw [if_pos (by omega), if_neg (by omega)]
        by_cases q2 : b % (k + 1) = 0
        · rw [if_pos (by omega), if_pos ⟨q1, q2⟩]
        · rw [if_neg (by omega), if_neg (fun w => q2 w.2)]; exact ih (by omega)
      · rw [if_neg (by omega), if_neg (fun w => q1 w.1)]; exact ih (by omega)
theorem kd153 (d a b : Nat) (part : Int) (ρ : mj_M) : ∀ (f : Nat) (x y : Nat) (o1 o3 o6 o8 o9 o10 : Option mj_V), y < f → 0 < x → kd d 153 2 [some (v_l (a : Int)), o1, some (v_l (b : Int)), o3, some (v_i part), some (v_l (x : Int)), o6, some (v_l (y : Int)), o8, o9, o10] [] ρ = some (some (v_l (mj_x ((if part = 0 then (a : Int) else (b : Int)).tdiv (pEu f x y : Int)))), ρ) := by
  intro f
  induction f with
  | zero => intro x y o1 o3 o6 o8 o9 o10 hy; exact absurd hy (Nat.not_lt_zero y)
  | succ f ih =>
    intro x y o1 o3 o6 o8 o9 o10 hy hx
    have hp : pEu (f + 1) x y = if y = 0 then x else pEu f y (x % y) := rfl
    rw [ke153_2, if_neg (by omega), tm_n, hp]
    by_cases q : y = 0
    · rw [if_pos (by omega), if_pos q]
      by_cases w : part = 0
      · rw [if_pos w, if_neg (by omega), if_pos w]
      · rw [if_neg w, if_neg (by omega), if_neg w]
    · have h1 := Nat.mod_lt x (Nat.pos_of_ne_zero q)
      rw [if_neg (by omega), if_neg q, if_neg (by omega)]
      exact ih y (x % y) _ _ _ _ _ _ (by omega) (by omega)
theorem cd_eu : ∀ b, b < 21 → ∀ a, a < 21 → 0 < a → a ≤ b → pCd a b b = pEu 21 a b := by decide +kernel
theorem cd_0 : ∀ b, b < 21 → 0 < b → pCd 0 b b = b := by decide +kernel
theorem cd_p : ∀ b, b < 21 → ∀ a, a < 21 → 0 < pCd a b b := by decide +kernel
theorem q_in (x y : Nat) (h : x < 21) : mj_w (((x / y : Nat) : Int)) = ((x / y : Nat) : Int) ∧ mj_x (((x / y : Nat) : Int)) = ((x / y : Nat) : Int) := by
  have := Nat.div_le_self x y
  generalize x / y = z at this ⊢
  exact ⟨wi (by omega) (by omega), xi (by omega) (by omega)⟩
def pFin (a b : Nat) (part : Int) : Int := if part = 0 then ((a / pCd a b b : Nat) : Int) else ((b / pCd a b b : Nat) : Int)
theorem finR (d a b : Nat) (hb : b < 21) (hb0 : 0 < b) (ha : a ≤ b) (part : Int) (hp : part = 0 ∨ part = 1) (ρ : mj_M) : kc (d + 1) 153 [v_l (a : Int), v_l (b : Int), v_i part] ρ = some (some (v_l (pFin a b part)), ρ) := by
  rw [ke153_0, if_neg (by omega)]
  by_cases q : a = 0
  · rw [if_pos (by omega), q]
    unfold pFin
    rw [cd_0 b hb hb0]
    rcases hp with rfl | rfl
    · rw [if_pos rfl, Nat.zero_div]; rfl
    · rw [if_neg n10, Nat.div_self hb0]; rfl
  · have e : pEu 21 a b = pCd a b b := (cd_eu b hb a (by omega) (by omega) ha).symm
    rw [if_neg (by omega), kd153 d a b part ρ 21 a b _ _ _ _ _ _ hb (by omega), e]
    unfold pFin
    rcases hp with rfl | rfl
    · rw [if_pos rfl, if_pos rfl, td_n, (q_in a _ (by omega)).2]
    · rw [if_neg n10, if_neg n10, td_n, (q_in b _ (by omega)).2]
theorem wsd (s : Int) (i : Nat) (h : 0 ≤ s ∧ s ≤ 99999) (hi : i ≤ 20) : mj_w (s + (i : Int)) = s + (i : Int) := wi (by omega) (by omega)
theorem kd36 (d n : Nat) (s v part : Int) (hs : 0 ≤ s ∧ s ≤ 99999) (hn : 1 ≤ n ∧ n ≤ 20) (hp : part = 0 ∨ part = 1) {μ ρ : mj_M} {I : pI} {t : Nat} (hD : dAll μ ρ I t) :
    ∀ j k (μ1 : mj_M), k + j = n → fr sC μ μ1 → mwL (kd (d + 5) 36 3 [some (v_r 0 0), some (v_i s), some (v_i (n : Int)), some (v_i v), some (v_i part), some (v_i (pCnt (gLot I s v) k : Int)), some (v_i (k : Int))] [] μ1) (fun x μ' => x = pFin (pCnt (gLot I s v) n) n part ∧ fr sC μ μ') := by
  intro j
  induction j with
  | zero =>
    intro k μ1 hk hf
    have e : k = n := by omega
    have hle := pCnt_le (gLot I s v) n
    have hcp := cd_p n (by omega) (pCnt (gLot I s v) n) (by omega)
    rw [ke36_3, if_neg (by omega), e, ke71_0, kd71 _ _ n μ1 n (by omega), rI_some, td_n, td_n, (q_in _ _ (by omega)).1, (q_in n _ (by omega)).1]
    have hne : ¬ ((pCd (pCnt (gLot I s v) n) n n : Nat) : Int) = 0 := by omega
    unfold pFin
    by_cases w : part = 0
    · rw [if_pos w, if_pos w, if_neg hne]; exact mwL_ret ⟨rfl, hf⟩
    · rw [if_neg w, if_neg w, if_neg hne]; exact mwL_ret ⟨rfl, hf⟩
  | succ j ih =>
    intro k μ1 hk hf
    have hle := pCnt_le (gLot I s v) k
    have hc : pCnt (gLot I s v) (k + 1) = if gLot I s v k then pCnt (gLot I s v) k + 1 else pCnt (gLot I s v) k := rfl
    have hO := iOK_dK hD.2.2.1 (s + (k : Int)) I.m
    rw [ke36_3, if_pos (by omega), wsd s k hs (by omega)]
    refine mwL_rV (mwV_mono (kc59 (d + 2) (s + (k : Int)) (dAll_sC hD hf)) (fun μ2 g => ?_))
    refine mwL_rV (mwV_mono (tC_live d g hO hD.2.1.law) (fun μ3 g2 => ?_))
    rw [overC (d + 3) v hO g2.1 g2.2.1.1, rI_some, wk k (m := 21) (by omega) (by omega)]
    have hf3 : fr sC μ μ3 := fr_tr hf g2.2.1.2.2
    have nx := ih (k + 1) μ3 (by omega) hf3
    by_cases q : gLot I s v k
    · rw [if_pos q] at hc
      rw [hc] at nx
      rw [b01_t q, if_neg n10, wk (pCnt (gLot I s v) k) (m := 21) (by omega) (by omega)]
      exact nx
    · rw [if_neg q] at hc
      rw [hc] at nx
      rw [b01_f q, if_pos rfl]
      exact nx
theorem wx1 (k : Nat) (h : k ≤ 100) : mj_x ((k : Int) + 1) = ((k + 1 : Nat) : Int) ∧ mj_x ((k : Int) + 0) = (k : Int) := by
  refine ⟨?_, ?_⟩
  · rw [xi (by omega) (by omega)]; omega
  · rw [xi (by omega) (by omega)]; omega
theorem kd154 (d n : Nat) (s v part : Int) (hs : 0 ≤ s ∧ s ≤ 99999) (hn : 1 ≤ n ∧ n ≤ 20) (hp : part = 0 ∨ part = 1) {ρ : mj_M} {I : pI} {t : Nat} (hO0 : iOK I) (hI0 : iR ρ I t) :
    ∀ j k (o6 : Option mj_V) (ρ1 : mj_M), k + j = n → fr sR ρ ρ1 → mwL (kd (d + 8) 154 3 [some (v_r 33 0), some (v_i s), some (v_i (n : Int)), some (v_i v), some (v_i part), some (v_l (pCnt (gLot I s v) k : Int)), o6, some (v_i (k : Int))] [] ρ1) (fun x ρ' => x = pFin (pCnt (gLot I s v) n) n part ∧ fr sR ρ ρ') := by
  have hm16 := hO0.m
  intro j
  induction j with
  | zero =>
    intro k o6 ρ1 hk hf
    have e : k = n := by omega
    rw [ke154_3, if_neg (by omega), e, finR (d + 7) _ n (by omega) (by omega) (pCnt_le _ n) part hp ρ1, rL_some]
    exact mwL_ret ⟨rfl, hf⟩
  | succ j ih =>
    intro k o6 ρ1 hk hf
    have hle := pCnt_le (gLot I s v) k
    have hc : pCnt (gLot I s v) (k + 1) = if gLot I s v k then pCnt (gLot I s v) k + 1 else pCnt (gLot I s v) k := rfl
    have hO := iOK_dK hO0 (s + (k : Int)) I.m
    rw [ke154_3, if_pos (by omega), wsd s k hs (by omega)]
    refine mwL_rV (mwV_mono (kc150 d (s + (k : Int)) hO0 (iR_sR hI0 hf)) (fun ρ2 g => ?_))
    obtain ⟨g1, g2, g3, g4⟩ := g
    have hm17 : (dK I (s + (k : Int)) I.m).m ≤ 17 := Nat.le_trans hm16 (by decide)
    obtain ⟨x1, x2⟩ := wx1 (pCnt (gLot I s v) k) (by omega)
    have h5 : ρ2 33 0 5 = (I.m : Int) := g2.m
    have fin : ∀ c : Nat, c = pCnt (gLot I s v) (k + 1) → mwL (mj_rV (kc (d + 8) 151 [v_r 33 0] ρ2) fun m6 => kd (d + 8) 154 3 [some (v_r 33 0), some (v_i s), some (v_i (n : Int)), some (v_i v), some (v_i part), some (v_l (c : Int)), none, some (v_i (mj_w ((k : Int) + 1)))] [] m6) (fun x ρ' => x = pFin (pCnt (gLot I s v) n) n part ∧ fr sR ρ ρ') := by
      intro c hcc
      refine mwL_rV (mwV_mono (kc151 (d + 7) h5 hm16 g3 g4) (fun ρ3 g5 => ?_))
      rw [wk k (m := 21) (by omega) (by omega), hcc]
      exact ih (k + 1) _ ρ3 (by omega) (fr_tr hf g5)
    rw [kc117 (d + 7) ρ2 g2.m hm17, rI_some, pMax_cg (f := ρ2 56 0) (g := pLife (dK I (s + (k : Int)) I.m) 3) (fun a ha => zR_a g1 ha 3 (by decide))]
    by_cases q1 : v < pMax (pLife (dK I (s + (k : Int)) I.m) 3) (dK I (s + (k : Int)) I.m).m
    · rw [if_neg (fun w => by have := w.1; omega)] at hc
      rw [if_pos q1, x2]
      exact fin _ hc.symm
    · rw [if_neg q1, kc115 (d + 7) 1 ρ2 g2.m hm17, rI_some, pMany_cg (f := ρ2 53 0) (g := pLife (dK I (s + (k : Int)) I.m) 0) (fun a ha => zR_a g1 ha 0 (by decide))]
      by_cases q2 : pMany (pLife (dK I (s + (k : Int)) I.m) 0) 1 (dK I (s + (k : Int)) I.m).m = 0
      · rw [if_pos ⟨Int.not_lt.mp q1, q2⟩] at hc
        rw [if_pos q2, x1]
        exact fin _ hc.symm
      · rw [if_neg (fun w => q2 w.2)] at hc
        rw [if_neg q2, x2]
        exact fin _ hc.symm
theorem op_odds (d : Nat) (s n v part : Int) {μ ρ : mj_M} (h : Inv μ ρ) : mw2L (kc (d + 20) 36 [v_r 0 0, v_i s, v_i n, v_i v, v_i part] μ) (kc (d + 20) 154 [v_r 33 0, v_i s, v_i n, v_i v, v_i part] ρ) := by
  obtain ⟨I, t, hD, -⟩ := Inv_day h
  rw [ke36_0, ke154_0, kc44, kc72, rI_some, rI_some]
  by_cases q1 : 0 ≤ s ∧ s ≤ 99999
  · rw [b01_t q1, if_neg n10, if_neg n10, kc44, kc72, rI_some, rI_some]
    by_cases q2 : 1 ≤ n ∧ n ≤ 20
    · rw [b01_t q2, if_neg n10, if_neg n10, kc44, kc72, rI_some, rI_some]
      by_cases q3 : 0 ≤ v ∧ v ≤ 999
      · rw [b01_t q3, if_neg n10, if_neg n10, kc44, kc72, rI_some, rI_some]
        by_cases q4 : 0 ≤ part ∧ part ≤ 1
        · obtain ⟨n, rfl⟩ : ∃ k : Nat, n = k := ⟨n.toNat, by omega⟩
          rw [b01_t q4, if_neg n10, if_neg n10]
          exact mw2L_of (x := pFin (pCnt (gLot I s v) n) n part) h (kd36 (d + 14) n s v part q1 (by omega) (by omega) hD n 0 μ (by omega) fr_rf) (kd154 (d + 11) n s v part q1 (by omega) (by omega) hD.2.2.1 hD.2.1 n 0 _ ρ (by omega) fr_rf)
        · rw [b01_f q4, if_pos rfl, if_pos rfl]; exact mw2L_same _ h
      · rw [b01_f q3, if_pos rfl, if_pos rfl]; exact mw2L_same _ h
    · rw [b01_f q2, if_pos rfl, if_pos rfl]; exact mw2L_same _ h
  · rw [b01_f q1, if_pos rfl, if_pos rfl]; exact mw2L_same _ h
