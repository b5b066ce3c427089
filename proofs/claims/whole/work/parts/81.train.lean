/-! train -/
theorem mwI_eq' {r r' : mj_R} {Q : Int → mj_M → Prop} (h : r = r') (h1 : mwI r' Q) : mwI r Q := h ▸ h1
def tN (I : pI) (x : Nat) : pI := uI I 1 (x / 4) (pLet (I.does (x / 4)) (x % 4))
abbrev gWell (I : pI) (v : Int) : Prop := pMany (pLife I 0) 2 I.m = (I.m : Int) ∧ ¬ v < pMax (pWt (pLife I 0) (pLife I 2) I.comes) I.m
theorem iOK_tN {I : pI} (h : iOK I) {x : Nat} (hx : x < 4 * I.n) : iOK (tN I x) := iOK_does_u h (pLet_b (h.does (x / 4) (by omega)) (by omega))
theorem tN_n {I : pI} {x : Nat} : (tN I x).n = I.n := rfl
theorem sk4 (x : Nat) (h : x < 16) : mj_w ((x : Int).tdiv 4) = ((x / 4 : Nat) : Int) ∧ (x : Int).tmod 4 = ((x % 4 : Nat) : Int) ∧ (0 ≤ ((x / 4 : Nat) : Int) ∧ ((x / 4 : Nat) : Int) < 4) ∧ (0 ≤ ((x % 4 : Nat) : Int) ∧ ((x % 4 : Nat) : Int) < 32) ∧ mj_w (3 * ((x / 4 : Nat) : Int)) = ((3 * (x / 4) : Nat) : Int) ∧ (0 ≤ ((3 * (x / 4) : Nat) : Int) ∧ ((3 * (x / 4) : Nat) : Int) < 12) := by
  have e1 : (x : Int).tdiv 4 = ((x / 4 : Nat) : Int) := rfl
  have e2 : (x : Int).tmod 4 = ((x % 4 : Nat) : Int) := rfl
  refine ⟨?_, e2, ?_, ?_, ?_, ?_⟩
  · rw [e1, wi (by omega) (by omega)]
  · omega
  · omega
  · rw [wi (by omega) (by omega)]; omega
  · omega
theorem bitm (x : Nat) : (0 : Int) ≤ mj_w (1 * 2 ^ (x % 4)) := (bit_nn (x % 4) (Nat.lt_of_lt_of_le (Nat.mod_lt x (by decide)) (by decide))).resolve_right (Nat.ne_of_lt (Nat.lt_of_lt_of_le (Nat.mod_lt x (by decide)) (by decide)))
theorem ylem {n y i : Nat} (hn : n ≤ 4) (hy : y + (i + 1) = 4 * n) : y < 16 ∧ y / 4 < n ∧ y < 4 * n ∧ (y : Int) < ((4 * n : Nat) : Int) ∧ y + 1 + i = 4 * n := by
  refine ⟨?_, ?_, ?_, ?_, ?_⟩ <;> omega
theorem ynlt {n y : Nat} (hy : y + 0 = 4 * n) : ¬ (y : Int) < ((4 * n : Nat) : Int) := by omega
theorem xend {n x j : Nat} (hx : x + (j + 1) = 4 * n) : x + 1 + (4 * n - (x + 1)) = 4 * n := by omega
theorem kc192 (d x : Nat) {μ0 μ : mj_M} {I : pI} {t : Nat} (hO : iOK I) (hx : x < 4 * I.n) (h : tC μ0 μ I t) : mwV (kc (d + 2) 192 [v_r 1 2, v_i (x : Int)] μ) (fun μ' => tC μ0 μ' (tN I x) t) := by
  have hn := hO.n
  have hx16 : x < 16 := by omega
  have hx15 : 0 ≤ (x : Int) ∧ (x : Int) ≤ 15 := by omega
  have hd : μ 2 2 (x / 4) = I.does (x / 4) := h.1.does (x / 4) (by omega)
  have hdo := hO.does (x / 4) (by omega)
  obtain ⟨e1, e2, e3, e4, -, -⟩ := sk4 x hx16
  have hbit := bitm x
  have hset := tC_set h (iC_does (x := pLet (I.does (x / 4)) (x % 4)) (c := x / 4) h.1) rfl (Or.inl (by decide))
  rw [ke192_0, kc44, rI_some, b01_t hx15, if_neg n10, e1, e2, if_pos e3, if_pos e4, if_pos e3, Int.toNat_natCast, Int.toNat_natCast, hd, if_pos ⟨hdo.1, hbit⟩]
  exact mwV_ret hset
theorem kc192n (d : Nat) (μ : mj_M) : kc (d + 2) 192 [v_r 1 2, v_i (-1)] μ = some (none, μ) := by
  rw [ke192_0, kc44, rI_some, b01_f (by decide), if_pos rfl]
theorem wellC (d : Nat) (v : Int) {μ0 μ : mj_M} {I : pI} {t : Nat} (hO : iOK I) (h6 : t < 6) (h : tC μ0 μ I t) (hm : μ0 1 0 4 = (I.m : Int)) : mwI (mj_rV (kc (d + 5) 57 [v_r 0 0] μ) fun m4 => mj_rI (kc (d + 5) 180 [v_r 21 0, v_i 2] m4) fun x5 m6 => if x5 = (m6 1 0 4) then (mj_rI (kc (d + 5) 182 [v_r 21 0] m6) fun x7 m8 => if v < x7 then (some (some (v_i 0), m8)) else (some (some (v_i 1), m8))) else (some (some (v_i 0), m6))) (fun x μ' => x = b01 (gWell I v) ∧ fr sC μ0 μ') := by
  refine mwI_rV (mwV_mono (tC_live d h hO h6) (fun μ2 g => ?_))
  obtain ⟨gZ, gT, -⟩ := g
  have e1 : pMany (μ2 22 0) 2 I.m = pMany (pLife I 0) 2 I.m := pMany_cg (fun a ha => zC_a gZ ha 0 (by decide))
  have e2 : pMax (pWt (μ2 22 0) (μ2 23 0) (μ2 5 2)) I.m = pMax (pWt (pLife I 0) (pLife I 2) I.comes) I.m := pMax_cg (fun a ha => by
    unfold pWt
    rw [show μ2 22 0 a = pLife I 0 a from zC_a gZ ha 0 (by decide), show μ2 23 0 a = pLife I 2 a from zC_a gZ ha 2 (by decide), gT.1.comes a ha])
  rw [kc180 (d + 4) 2 μ2 gT.1.m hO.m, rI_some, (gT.2.2 1 0 4 rfl).trans hm, e1]
  by_cases q : pMany (pLife I 0) 2 I.m = (I.m : Int)
  · rw [if_pos q, kc182 (d + 3) μ2 gT.1.m hO.m, rI_some, e2]
    by_cases q2 : v < pMax (pWt (pLife I 0) (pLife I 2) I.comes) I.m
    · rw [if_pos q2, b01_f (fun w => w.2 q2)]; exact mwI_ret ⟨rfl, gT.2.2⟩
    · rw [if_neg q2, b01_t ⟨q, q2⟩]; exact mwI_ret ⟨rfl, gT.2.2⟩
  · rw [if_neg q, b01_f (fun w => q w.1)]; exact mwI_ret ⟨rfl, gT.2.2⟩
theorem kc60a (d : Nat) (v : Int) {μ ρ : mj_M} {I : pI} {t : Nat} (hD : dAll μ ρ I t) : mwI (kc (d + 6) 60 [v_r 0 0, v_i (-1), v_i (-1), v_i v] μ) (fun x μ' => x = b01 (gWell I v) ∧ fr sC μ μ') := by
  rw [ke60_0]
  refine mwI_rV (mwV_mono (tC_plan (d + 3) hD fr_rf) (fun μ1 g1 => ?_))
  rw [kc192n, rV_some, kc192n, rV_some]
  exact wellC d v hD.2.2.1 hD.2.1.law g1.1 hD.1.m
theorem kc60b (d : Nat) (v : Int) (x : Nat) {μ ρ : mj_M} {I : pI} {t : Nat} (hD : dAll μ ρ I t) (hx : x < 4 * I.n) : mwI (kc (d + 6) 60 [v_r 0 0, v_i (x : Int), v_i (-1), v_i v] μ) (fun y μ' => y = b01 (gWell (tN I x) v) ∧ fr sC μ μ') := by
  rw [ke60_0]
  refine mwI_rV (mwV_mono (tC_plan (d + 3) hD fr_rf) (fun μ1 g1 => ?_))
  refine mwI_rV (mwV_mono (kc192 (d + 3) x hD.2.2.1 hx g1.1) (fun μ2 g2 => ?_))
  rw [kc192n, rV_some]
  exact wellC d v (iOK_tN hD.2.2.1 hx) hD.2.1.law g2 hD.1.m
theorem kc60c (d : Nat) (v : Int) (x y : Nat) {μ ρ : mj_M} {I : pI} {t : Nat} (hD : dAll μ ρ I t) (hx : x < 4 * I.n) (hy : y < 4 * I.n) : mwI (kc (d + 6) 60 [v_r 0 0, v_i (x : Int), v_i (y : Int), v_i v] μ) (fun z μ' => z = b01 (gWell (tN (tN I x) y) v) ∧ fr sC μ μ') := by
  rw [ke60_0]
  refine mwI_rV (mwV_mono (tC_plan (d + 3) hD fr_rf) (fun μ1 g1 => ?_))
  refine mwI_rV (mwV_mono (kc192 (d + 3) x hD.2.2.1 hx g1.1) (fun μ2 g2 => ?_))
  refine mwI_rV (mwV_mono (kc192 (d + 3) y (iOK_tN hD.2.2.1 hx) hy g2) (fun μ3 g3 => ?_))
  exact wellC d v (iOK_tN (iOK_tN hD.2.2.1 hx) hy) hD.2.1.law g3 hD.1.m
theorem wellR (d : Nat) (v : Int) {ρ : mj_M} {I : pI} {t : Nat} (hO : iOK I) (hI : iR ρ I t) : mwI (kc (d + 8) 125 [v_r 33 0, v_i v] ρ) (fun x ρ' => x = b01 (gWell I v) ∧ iR ρ' I t ∧ fr (fS dR) ρ ρ') := by
  have hm := hO.m
  rw [ke125_0]
  refine mwI_rV (mwV_mono (kc112 d I t ρ hO hI) (fun ρ2 g => ?_))
  have hI' := iR_fr hI g.2 (by decide)
  have hm17 : I.m ≤ 17 := by omega
  have e1 : pMany (ρ2 53 0) 2 I.m = pMany (pLife I 0) 2 I.m := pMany_cg (fun a ha => zR_a g.1 ha 0 (by decide))
  have e2 : pMax (pWt (ρ2 53 0) (ρ2 55 0) (ρ2 39 0)) I.m = pMax (pWt (pLife I 0) (pLife I 2) I.comes) I.m := pMax_cg (fun a ha => by
    unfold pWt
    rw [show ρ2 53 0 a = pLife I 0 a from zR_a g.1 ha 0 (by decide), show ρ2 55 0 a = pLife I 2 a from zR_a g.1 ha 2 (by decide), hI'.comes a ha])
  rw [kc115 (d + 6) 2 ρ2 hI'.m hm17, rI_some, hI'.m, e1]
  by_cases q : pMany (pLife I 0) 2 I.m = (I.m : Int)
  · rw [if_pos q, kc116 (d + 5) ρ2 hI'.m hm17, rI_some, e2]
    by_cases q2 : v < pMax (pWt (pLife I 0) (pLife I 2) I.comes) I.m
    · rw [if_pos q2, b01_f (fun w => w.2 q2)]; exact mwI_ret ⟨rfl, hI', g.2⟩
    · rw [if_neg q2, b01_t ⟨q, q2⟩]; exact mwI_ret ⟨rfl, hI', g.2⟩
  · rw [if_neg q, b01_f (fun w => q w.1)]; exact mwI_ret ⟨rfl, hI', g.2⟩
/-- the first of them, told by v; -1: none -/
def pSr (P : Nat → Prop) [∀ k, Decidable (P k)] (v : Nat → Int) : Nat → Nat → Int
  | 0, _ => -1
  | j + 1, k => if P k then v k else pSr P v j (k + 1)
def v1 (x : Nat) : Int := ((10 * (x / 4) + x % 4 : Nat) : Int)
def v2 (x y : Nat) : Int := ((100 * (10 * (x / 4) + x % 4) + (10 * (y / 4) + y % 4) : Nat) : Int)
abbrev pW1 (I : pI) (v : Int) (x : Nat) : Prop := gWell (tN I x) v
abbrev pW2b (I : pI) (v : Int) (x y : Nat) : Prop := gWell (tN (tN I x) y) v
def pIn (I : pI) (v : Int) (x : Nat) : Int := pSr (pW2b I v x) (v2 x) (4 * I.n - (x + 1)) (x + 1)
def pOu (I : pI) (v : Int) : Nat → Nat → Int
  | 0, _ => -1
  | j + 1, x => if pIn I v x = -1 then pOu I v j (x + 1) else pIn I v x
def pTr (I : pI) (v w : Int) : Int := if gWell I v then (if w = 0 then 0 else -1) else if pSr (pW1 I v) v1 (4 * I.n) 0 = -1 then (if pOu I v (4 * I.n) 0 = -1 then -1 else if w = 0 then 2 else pOu I v (4 * I.n) 0) else if w = 0 then 1 else pSr (pW1 I v) v1 (4 * I.n) 0
theorem pSr_nn (P : Nat → Prop) [∀ k, Decidable (P k)] {v : Nat → Int} (hv : ∀ k, 0 ≤ v k) : ∀ j k, -1 ≤ pSr P v j k
  | 0, _ => Int.le_refl _
  | j + 1, k => by
    have h1 := pSr_nn P hv j (k + 1)
    have h2 := hv k
    unfold pSr
    split <;> omega
theorem v1_s (x : Nat) (h : x < 16) : mj_w (mj_w (mj_w ((x : Int).tdiv 4) * 10) + (x : Int).tmod 4) = v1 x ∧ mj_w (mj_w (10 * mj_w ((x : Int).tdiv 4)) + (x : Int).tmod 4) = v1 x := by
  obtain ⟨e1, e2, -, -, -, -⟩ := sk4 x h
  unfold v1
  rw [e1, e2]
  refine ⟨?_, ?_⟩
  · rw [wi (z := ((x / 4 : Nat) : Int) * 10) (by omega) (by omega), wi (by omega) (by omega)]; omega
  · rw [wi (z := 10 * ((x / 4 : Nat) : Int)) (by omega) (by omega), wi (by omega) (by omega)]; omega
theorem v2_s (x y : Nat) (h : x < 16) (h' : y < 16) : mj_w (mj_w (v1 x * 100) + v1 y) = v2 x y ∧ mj_w (mj_w (mj_w (100 * v1 x) + mj_w (10 * mj_w ((y : Int).tdiv 4))) + (y : Int).tmod 4) = v2 x y := by
  obtain ⟨e1, e2, -, -, -, -⟩ := sk4 y h'
  unfold v1 v2
  rw [e1, e2]
  refine ⟨?_, ?_⟩
  · rw [wi (z := ((10 * (x / 4) + x % 4 : Nat) : Int) * 100) (by omega) (by omega), wi (by omega) (by omega)]; omega
  · rw [wi (z := 100 * ((10 * (x / 4) + x % 4 : Nat) : Int)) (by omega) (by omega), wi (z := 10 * ((y / 4 : Nat) : Int)) (by omega) (by omega), wi (z := 100 * ((10 * (x / 4) + x % 4 : Nat) : Int) + 10 * ((y / 4 : Nat) : Int)) (by omega) (by omega), wi (by omega) (by omega)]; omega
theorem kc61 (d x : Nat) (h : x < 16) (μ : mj_M) : kc (d + 1) 61 [v_i (x : Int)] μ = some (some (v_i (v1 x)), μ) := by
  rw [ke61_0, (v1_s x h).1]
theorem v1_nn (x : Nat) : 0 ≤ v1 x := Int.natCast_nonneg _
theorem v2_nn (x y : Nat) : 0 ≤ v2 x y := Int.natCast_nonneg _
theorem v1_ne (x : Nat) : ¬ v1 x = -1 := by have := v1_nn x; omega
theorem v2_ne (x y : Nat) : ¬ v2 x y = -1 := by have := v2_nn x y; omega
theorem w01 {w : Int} (h : 0 ≤ w ∧ w ≤ 1) (q : ¬ w = 1) : w = 0 := by omega
/-- the class: two more -/
theorem kd18b (d : Nat) (v w : Int) {μ0 ρ : mj_M} {I : pI} {t : Nat} (hD : dAll μ0 ρ I t) :
    ∀ j x (o5 : Option mj_V) (μ : mj_M), x + j = 4 * I.n → fr sC μ0 μ → mwI (kd (d + 6) 18 11 [some (v_r 0 0), some (v_i v), some (v_i w), some (v_i ((4 * I.n : Nat) : Int)), some (v_i (x : Int)), o5] [] μ) (fun z μ' => z = (if pOu I v j x = -1 then -1 else if w = 0 then 2 else pOu I v j x) ∧ fr sC μ0 μ') := by
  have hn := hD.2.2.1.n
  intro j
  induction j with
  | zero =>
    intro x o5 μ hx hf
    rw [ke18_11, if_neg (by omega)]
    exact mwI_ret ⟨rfl, hf⟩
  | succ j ih =>
    intro x o5 μ hx hf
    have hpo : pOu I v (j + 1) x = if pIn I v x = -1 then pOu I v j (x + 1) else pIn I v x := rfl
    have inner : ∀ i y (μ : mj_M), y + i = 4 * I.n → x < y → fr sC μ0 μ → mwI (kd (d + 6) 18 12 [some (v_r 0 0), some (v_i v), some (v_i w), some (v_i ((4 * I.n : Nat) : Int)), some (v_i (x : Int)), some (v_i (y : Int))] [] μ) (fun z μ' => z = (if pSr (pW2b I v x) (v2 x) i y = -1 then (if pOu I v j (x + 1) = -1 then -1 else if w = 0 then 2 else pOu I v j (x + 1)) else if w = 0 then 2 else pSr (pW2b I v x) (v2 x) i y) ∧ fr sC μ0 μ') := by
      intro i
      induction i with
      | zero =>
        intro y μ hy hxy hf
        rw [ke18_12, if_neg (by omega), wk x (m := 16) (by omega) (by omega)]
        exact ih (x + 1) _ μ (by omega) hf
      | succ i ihi =>
        intro y μ hy hxy hf
        have hps : pSr (pW2b I v x) (v2 x) (i + 1) y = if pW2b I v x y then v2 x y else pSr (pW2b I v x) (v2 x) i (y + 1) := rfl
        rw [ke18_12, if_pos (by omega)]
        refine mwI_rI (mwI_mono (kc60c d v x y (dAll_sC hD hf) (by omega) (by omega)) (fun z μ1 g => ?_))
        obtain ⟨rfl, g⟩ := g
        have hf1 := fr_tr hf g
        by_cases q : pW2b I v x y
        · rw [if_pos q] at hps
          rw [b01_t q, if_neg n10, hps, if_neg (v2_ne x y)]
          by_cases hw : w = 0
          · rw [if_pos hw, if_pos hw]; exact mwI_ret ⟨rfl, hf1⟩
          · rw [if_neg hw, if_neg hw, kc61 (d + 5) x (by omega), rI_some, kc61 (d + 5) y (by omega), rI_some, (v2_s x y (by omega) (by omega)).1]
            exact mwI_ret ⟨rfl, hf1⟩
        · rw [if_neg q] at hps
          rw [b01_f q, if_pos rfl, wk y (m := 16) (by omega) (by omega), hps]
          exact ihi (y + 1) μ1 (by omega) (by omega) hf1
    rw [ke18_11, if_pos (by omega), wk x (m := 16) (by omega) (by omega)]
    refine mwI_mono (inner (4 * I.n - (x + 1)) (x + 1) μ (by omega) (by omega) hf) (fun z μ' g => ⟨?_, g.2⟩)
    rw [g.1, hpo]
    show (if pIn I v x = -1 then _ else if w = 0 then 2 else pIn I v x) = _
    by_cases q : pIn I v x = -1
    · rw [if_pos q, if_pos q]
    · rw [if_neg q, if_neg q, if_neg q]
theorem kd18a (d : Nat) (v w : Int) {μ0 ρ : mj_M} {I : pI} {t : Nat} (hD : dAll μ0 ρ I t) :
    ∀ j x (o5 : Option mj_V) (μ : mj_M), x + j = 4 * I.n → fr sC μ0 μ → mwI (kd (d + 6) 18 6 [some (v_r 0 0), some (v_i v), some (v_i w), some (v_i ((4 * I.n : Nat) : Int)), some (v_i (x : Int)), o5] [] μ) (fun z μ' => z = (if pSr (pW1 I v) v1 j x = -1 then (if pOu I v (4 * I.n) 0 = -1 then -1 else if w = 0 then 2 else pOu I v (4 * I.n) 0) else if w = 0 then 1 else pSr (pW1 I v) v1 j x) ∧ fr sC μ0 μ') := by
  have hn := hD.2.2.1.n
  intro j
  induction j with
  | zero =>
    intro x o5 μ hx hf
    rw [ke18_6, if_neg (by omega)]
    exact kd18b d v w hD (4 * I.n) 0 _ μ (by omega) hf
  | succ j ih =>
    intro x o5 μ hx hf
    have hps : pSr (pW1 I v) v1 (j + 1) x = if pW1 I v x then v1 x else pSr (pW1 I v) v1 j (x + 1) := rfl
    rw [ke18_6, if_pos (by omega)]
    refine mwI_rI (mwI_mono (kc60b d v x (dAll_sC hD hf) (by omega)) (fun z μ1 g => ?_))
    obtain ⟨rfl, g⟩ := g
    have hf1 := fr_tr hf g
    by_cases q : pW1 I v x
    · rw [if_pos q] at hps
      rw [b01_t q, if_neg n10, hps, if_neg (v1_ne x)]
      by_cases hw : w = 0
      · rw [if_pos hw, if_pos hw]; exact mwI_ret ⟨rfl, hf1⟩
      · rw [if_neg hw, if_neg hw, kc61 (d + 5) x (by omega), rI_some]
        exact mwI_ret ⟨rfl, hf1⟩
    · rw [if_neg q] at hps
      rw [b01_f q, if_pos rfl, wk x (m := 16) (by omega) (by omega), hps]
      exact ih (x + 1) _ μ1 (by omega) hf1
/-- the reference -/
theorem iR_tN {ρ : mj_M} {I : pI} {t x : Nat} (h : iR ρ I t) : iR (mj_up ρ 34 0 (3 * (x / 4)) (pLet (I.does (x / 4)) (x % 4))) (tN I x) t := iR_does h
theorem fourn (n : Nat) (h : n ≤ 4) : mj_w (4 * (n : Int)) = ((4 * n : Nat) : Int) ∧ mj_w ((n : Int) * 4) = ((4 * n : Nat) : Int) := by
  refine ⟨?_, ?_⟩
  · rw [wi (by omega) (by omega)]; omega
  · rw [wi (by omega) (by omega)]; omega
theorem kd126a (d : Nat) (v : Int) {ρ0 : mj_M} {I : pI} {t : Nat} (hO : iOK I) (hI0 : iR ρ0 I t) :
    ∀ j x (o4 o5 o6 o7 o8 : Option mj_V) (ρ : mj_M), x + j = 4 * I.n → fr sR ρ0 ρ → mwI (kd (d + 8) 126 1 [some (v_r 33 0), some (v_i v), some (v_i 0), some (v_i (x : Int)), o4, o5, o6, o7, o8] [] ρ) (fun z ρ' => z = pSr (pW1 I v) v1 j x ∧ fr sR ρ0 ρ') := by
  have hn := hO.n
  obtain ⟨f4, -⟩ := fourn I.n hn
  intro j
  induction j with
  | zero =>
    intro x o4 o5 o6 o7 o8 ρ hx hf
    rw [ke126_1, (iR_sR hI0 hf).n, f4, if_neg (ynlt hx)]
    exact mwI_ret ⟨rfl, hf⟩
  | succ j ih =>
    intro x o4 o5 o6 o7 o8 ρ hx hf
    obtain ⟨hx16, hxn, hx4n, hx4, hxs⟩ := ylem hn hx
    obtain ⟨e1, e2, e3, e4, e5, e6⟩ := sk4 x hx16
    have hbit := bitm x
    have hI := iR_sR hI0 hf
    have hd : ρ 34 0 (3 * (x / 4)) = I.does (x / 4) := hI.does (x / 4) hxn
    have hdo := hO.does (x / 4) hxn
    have hv1 := (v1_s x hx16).2
    rw [e1, e2] at hv1
    have hps : pSr (pW1 I v) v1 (j + 1) x = if pW1 I v x then v1 x else pSr (pW1 I v) v1 j (x + 1) := rfl
    have seven : ∀ (a6 : Int) (o5 o7 o8 : Option mj_V) (ρ2 : mj_M), fr (fX sR 34 0 (3 * (x / 4))) ρ0 ρ2 → a6 = (if pW1 I v x then v1 x else -1) → mwI (kd (d + 8) 126 7 [some (v_r 33 0), some (v_i v), some (v_i 0), some (v_i (x : Int)), some (v_i (I.does (x / 4))), o5, some (v_i a6), o7, o8] [] ρ2) (fun z ρ' => z = pSr (pW1 I v) v1 (j + 1) x ∧ fr sR ρ0 ρ') := by
      intro a6 o5 o7 o8 ρ2 hf2 ha
      have hfin : fr sR ρ0 (mj_up ρ2 34 0 (3 * (x / 4)) (I.does (x / 4))) := fX_back hf2 (hI0.does (x / 4) hxn).symm
      rw [ke126_7, e1, e5, if_pos e6, Int.toNat_natCast, ha, hps]
      by_cases q : pW1 I v x
      · rw [if_pos q, if_pos q, if_neg (v1_ne x)]; exact mwI_ret ⟨rfl, hfin⟩
      · rw [if_neg q, if_neg q, if_pos rfl, wk x hx16 (by decide)]
        exact ih (x + 1) _ _ _ _ _ _ hxs hfin
    have four : ∀ (a5 a6 : Int) (o8 : Option mj_V) (ρ2 : mj_M), iR ρ2 (tN I x) t → fr (fX sR 34 0 (3 * (x / 4))) ρ0 ρ2 → a6 = (if pW1 I v x then v1 x else -1) → mwI (kd (d + 8) 126 4 [some (v_r 33 0), some (v_i v), some (v_i 0), some (v_i (x : Int)), some (v_i (I.does (x / 4))), some (v_i a5), some (v_i a6), some (v_i (((x + 1 : Nat) : Int))), o8] [] ρ2) (fun z ρ' => z = pSr (pW1 I v) v1 (j + 1) x ∧ fr sR ρ0 ρ') := by
      intro a5 a6 o8 ρ2 hI2 hf2 ha
      rw [ke126_4, if_pos rfl]
      split
      · exact seven a6 _ _ _ ρ2 hf2 ha
      · exact seven a6 _ _ _ ρ2 hf2 ha
    rw [ke126_1, hI.n, f4, if_pos hx4, e1, e2, e5, if_pos e6, if_pos e4, Int.toNat_natCast, Int.toNat_natCast, hd, if_pos ⟨hdo.1, hbit⟩, if_pos e6, if_pos rfl, hv1, wk x hx16 (by decide)]
    refine mwI_rI (mwI_mono (wellR d v (iOK_tN hO hx4n) (iR_tN hI)) (fun z ρ2 g => ?_))
    obtain ⟨rfl, g2, g3⟩ := g
    have hf2 : fr (fX sR 34 0 (3 * (x / 4))) ρ0 ρ2 := fr_tr (fr_tr (fX_fr hf) fX_up) (fX_fr (sR_S g3 (by decide)))
    by_cases q : pW1 I v x
    · rw [b01_t q, if_neg n10]
      exact four _ _ _ ρ2 g2 hf2 (if_pos q).symm
    · rw [b01_f q, if_pos rfl]
      exact four _ _ _ ρ2 g2 hf2 (if_neg q).symm
theorem kd126b (d : Nat) (v : Int) {ρ0 : mj_M} {I : pI} {t : Nat} (hO : iOK I) (hI0 : iR ρ0 I t) :
    ∀ j x (o4 o5 o6 o7 o8 : Option mj_V) (ρ : mj_M), x + j = 4 * I.n → fr sR ρ0 ρ → mwI (kd (d + 8) 126 1 [some (v_r 33 0), some (v_i v), some (v_i 1), some (v_i (x : Int)), o4, o5, o6, o7, o8] [] ρ) (fun z ρ' => z = pOu I v j x ∧ fr sR ρ0 ρ') := by
  have hn := hO.n
  obtain ⟨f4, -⟩ := fourn I.n hn
  intro j
  induction j with
  | zero =>
    intro x o4 o5 o6 o7 o8 ρ hx hf
    rw [ke126_1, (iR_sR hI0 hf).n, f4, if_neg (ynlt hx)]
    exact mwI_ret ⟨rfl, hf⟩
  | succ j ih =>
    intro x o4 o5 o6 o7 o8 ρ hx hf
    obtain ⟨hx16, hxn, hx4n, hx4, hxs⟩ := ylem hn hx
    obtain ⟨e1, e2, e3, e4, e5, e6⟩ := sk4 x hx16
    have hbit := bitm x
    have hI := iR_sR hI0 hf
    have hd : ρ 34 0 (3 * (x / 4)) = I.does (x / 4) := hI.does (x / 4) hxn
    have hdo := hO.does (x / 4) hxn
    have hv1 := (v1_s x hx16).2
    rw [e1, e2] at hv1
    have hps : pOu I v (j + 1) x = if pIn I v x = -1 then pOu I v j (x + 1) else pIn I v x := rfl
    have hO1 := iOK_tN hO hx4n
    generalize hρ2 : mj_up ρ 34 0 (3 * (x / 4)) (pLet (I.does (x / 4)) (x % 4)) = ρ2
    have hI2 : iR ρ2 (tN I x) t := by rw [← hρ2]; exact iR_tN hI
    have hf02 : fr (fX sR 34 0 (3 * (x / 4))) ρ0 ρ2 := by rw [← hρ2]; exact fr_tr (fX_fr hf) fX_up
    have seven : ∀ (a6 : Int) (o5 o7 o8 : Option mj_V) (ρ3 : mj_M), fr sR ρ2 ρ3 → a6 = pIn I v x → mwI (kd (d + 8) 126 7 [some (v_r 33 0), some (v_i v), some (v_i 1), some (v_i (x : Int)), some (v_i (I.does (x / 4))), o5, some (v_i a6), o7, o8] [] ρ3) (fun z ρ' => z = pOu I v (j + 1) x ∧ fr sR ρ0 ρ') := by
      intro a6 o5 o7 o8 ρ3 hf3 ha
      have hfin : fr sR ρ0 (mj_up ρ3 34 0 (3 * (x / 4)) (I.does (x / 4))) := fX_back (fr_tr hf02 (fX_fr hf3)) (hI0.does (x / 4) hxn).symm
      rw [ke126_7, e1, e5, if_pos e6, Int.toNat_natCast, ha, hps]
      by_cases q : pIn I v x = -1
      · rw [if_pos q, if_pos q, wk x hx16 (by decide)]
        exact ih (x + 1) _ _ _ _ _ _ hxs hfin
      · rw [if_neg q, if_neg q]; exact mwI_ret ⟨rfl, hfin⟩
    have four : ∀ i y (o8 : Option mj_V) (ρ3 : mj_M), y + i = 4 * I.n → x < y → fr sR ρ2 ρ3 → pSr (pW2b I v x) (v2 x) i y = pIn I v x → mwI (kd (d + 8) 126 4 [some (v_r 33 0), some (v_i v), some (v_i 1), some (v_i (x : Int)), some (v_i (I.does (x / 4))), some (v_i (v1 x)), some (v_i (-1)), some (v_i (y : Int)), o8] [] ρ3) (fun z ρ' => z = pOu I v (j + 1) x ∧ fr sR ρ0 ρ') := by
      intro i
      induction i with
      | zero =>
        intro y o8 ρ3 hy hxy hf3 hs
        have hI3 := iR_sR hI2 hf3
        have hy4 := ynlt hy
        rw [ke126_4, hI3.n, tN_n, f4, if_neg hy4]
        exact seven _ _ _ _ ρ3 hf3 hs
      | succ i ihi =>
        intro y o8 ρ3 hy hxy hf3 hs
        obtain ⟨hy16, hyn, hy4n, hy4, hys⟩ := ylem hn hy
        obtain ⟨u1, u2, u3, u4, u5, u6⟩ := sk4 y hy16
        have ubit := bitm y
        have hI3 := iR_sR hI2 hf3
        have hd3 : ρ3 34 0 (3 * (y / 4)) = (tN I x).does (y / 4) := hI3.does (y / 4) hyn
        have hdo3 := hO1.does (y / 4) hyn
        have hv2 := (v2_s x y hx16 hy16).2
        rw [u1, u2] at hv2
        have hps2 : pSr (pW2b I v x) (v2 x) (i + 1) y = if pW2b I v x y then v2 x y else pSr (pW2b I v x) (v2 x) i (y + 1) := rfl
        rw [hps2] at hs
        rw [ke126_4, hI3.n, tN_n, f4, if_pos hy4, if_neg n10, if_pos rfl, u1, u2, u5, if_pos u6, if_pos u4, Int.toNat_natCast, Int.toNat_natCast, hd3, if_pos ⟨hdo3.1, ubit⟩, if_pos u6, hv2, wk y hy16 (by decide)]
        refine mwI_rI (mwI_mono (wellR d v (iOK_tN hO1 hy4n) (iR_tN hI3)) (fun z ρ4 g => ?_))
        obtain ⟨rfl, g2, g3⟩ := g
        have hf4 : fr sR ρ2 (mj_up ρ4 34 0 (3 * (y / 4)) ((tN I x).does (y / 4))) := fr_tr hf3 (fX_back (fr_tr fX_up (fX_fr (sR_S g3 (by decide)))) hd3.symm)
        have hI4 := iR_sR hI2 hf4
        by_cases q : pW2b I v x y
        · rw [if_pos q] at hs
          rw [b01_t q, if_neg n10, if_pos u6, ke126_4, if_neg n10]
          rw [if_neg (v2_ne x y)]
          split
          · exact seven _ _ _ _ _ hf4 hs
          · exact seven _ _ _ _ _ hf4 hs
        · rw [if_neg q] at hs
          rw [b01_f q, if_pos rfl, if_pos u6]
          exact ihi (y + 1) _ _ hys (Nat.lt_succ_of_lt hxy) hf4 hs
    have hend := xend hx
    rw [ke126_1, hI.n, f4, if_pos hx4, e1, e2, e5, if_pos e6, if_pos e4, Int.toNat_natCast, Int.toNat_natCast, hd, if_pos ⟨hdo.1, hbit⟩, if_pos e6, if_neg n10, hv1, wk x hx16 (by decide)]
    have := four (4 * I.n - (x + 1)) (x + 1) none ρ2 hend (Nat.lt_succ_self x) fr_rf rfl
    rw [← hρ2] at this
    exact this
theorem op_train (d : Nat) (v w : Int) {μ ρ : mj_M} (h : Inv μ ρ) : mw2 (kc (d + 20) 18 [v_r 0 0, v_i v, v_i w] μ) (kc (d + 20) 127 [v_r 33 0, v_i v, v_i w] ρ) := by
  obtain ⟨I, t, hD, -⟩ := Inv_day h
  obtain ⟨n4, m16, t6, cn, rn, cm, rm⟩ := dAll_n hD
  obtain ⟨-, f4⟩ := fourn I.n n4
  rw [ke18_0, ke127_0, kc44, kc72, rI_some, rI_some]
  by_cases q1 : 0 ≤ v ∧ v ≤ 999
  · rw [b01_t q1, if_neg n10, if_neg n10, kc44, kc72, rI_some, rI_some]
    by_cases q2 : 0 ≤ w ∧ w ≤ 1
    · rw [b01_t q2, if_neg n10, if_neg n10]
      refine mw2_of (x := pTr I v w) h ?_ ?_
      · refine mwI_rI (mwI_mono (kc60a (d + 13) v hD) (fun z μ1 g => ?_))
        obtain ⟨rfl, g⟩ := g
        unfold pTr
        by_cases q : gWell I v
        · rw [b01_t q, if_neg n10, if_pos q]
          by_cases hw : w = 0
          · rw [if_pos hw, if_pos hw]; exact mwI_ret ⟨rfl, g⟩
          · rw [if_neg hw, if_neg hw]; exact mwI_ret ⟨rfl, g⟩
        · rw [b01_f q, if_pos rfl, if_neg q, (g 1 0 0 rfl).trans cn, f4]
          exact kd18a (d + 13) v w hD (4 * I.n) 0 _ μ1 (Nat.zero_add _) g
      · refine mwI_rI (mwI_mono (wellR (d + 11) v hD.2.2.1 hD.2.1) (fun z ρ1 g => ?_))
        obtain ⟨rfl, -, g⟩ := g
        have hf1 : fr sR ρ ρ1 := sR_S g (by decide)
        unfold pTr
        by_cases q : gWell I v
        · rw [b01_t q, if_neg n10, if_pos q]
          by_cases hw : w = 0
          · rw [if_pos hw, if_pos hw]; exact mwI_ret ⟨rfl, hf1⟩
          · rw [if_neg hw, if_neg hw]; exact mwI_ret ⟨rfl, hf1⟩
        · rw [b01_f q, if_pos rfl, if_neg q]
          refine mwI_rI (mwI_eq' (ke126_0 _ _ _ _) (mwI_mono (kd126a (d + 10) v hD.2.2.1 hD.2.1 (4 * I.n) 0 _ _ _ _ _ ρ1 (Nat.zero_add _) hf1) (fun z ρ2 g => ?_)))
          obtain ⟨rfl, hf2⟩ := g
          by_cases q3 : pSr (pW1 I v) v1 (4 * I.n) 0 = -1
          · rw [if_pos q3, if_pos q3]
            refine mwI_rI (mwI_eq' (ke126_0 _ _ _ _) (mwI_mono (kd126b (d + 10) v hD.2.2.1 hD.2.1 (4 * I.n) 0 _ _ _ _ _ ρ2 (Nat.zero_add _) hf2) (fun z ρ3 g => ?_)))
            obtain ⟨rfl, hf3⟩ := g
            by_cases q4 : pOu I v (4 * I.n) 0 = -1
            · rw [if_pos q4, if_pos q4]
              split
              · exact mwI_ret ⟨q4, hf3⟩
              · exact mwI_ret ⟨q4, hf3⟩
            · rw [if_neg q4, if_neg q4]
              by_cases hw : w = 1
              · rw [if_pos hw, if_neg (fun z => absurd (hw.symm.trans z) n10)]; exact mwI_ret ⟨rfl, hf3⟩
              · rw [if_neg hw, if_pos (w01 q2 hw)]; exact mwI_ret ⟨rfl, hf3⟩
          · rw [if_neg q3, if_neg q3]
            by_cases hw : w = 0
            · rw [if_pos hw, if_pos hw]; exact mwI_ret ⟨rfl, hf2⟩
            · rw [if_neg hw, if_neg hw]; exact mwI_ret ⟨rfl, hf2⟩
    · rw [b01_f q2, if_pos rfl, if_pos rfl]; exact mw2_same _ h
  · rw [b01_f q1, if_pos rfl, if_pos rfl]; exact mw2_same _ h
