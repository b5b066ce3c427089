/-! a text: its codes g, its parts' bounds e -/
def pNm (b mo sl wa sa le : Int) : Nat → Int
  | 0 => b
  | 1 => mo
  | 2 => sl
  | 3 => wa
  | 4 => sa
  | _ => le
/-- bounds and codes that may stand -/
def pTxt (g : Nat → Int) (e : Nat → Nat) : Prop := e 0 = 0 ∧ e 0 ≤ e 1 ∧ e 1 ≤ e 2 ∧ e 2 ≤ e 3 ∧ e 3 ≤ 160 ∧ ∀ p, p < 3 → pOK (seg g (e p) (e (p + 1) - e p)) 0
def pW (g : Nat → Int) (e : Nat → Nat) (p : Nat) (nm : Nat → Int) : Int := pVal nm (seg g (e p) (e (p + 1) - e p))
theorem pTxt_le {g : Nat → Int} {e : Nat → Nat} (h : pTxt g e) {p : Nat} (hp : p < 3) : e p ≤ e (p + 1) ∧ e (p + 1) ≤ 160 ∧ e (p + 1) ≤ e 3 := by
  obtain ⟨h0, h1, h2, h3, h4, -⟩ := h
  match p, hp with
  | 0, _ => exact ⟨h1, Nat.le_trans h2 (Nat.le_trans h3 h4), Nat.le_trans h2 h3⟩
  | 1, _ => exact ⟨h2, Nat.le_trans h3 h4, h3⟩
  | 2, _ => exact ⟨h3, h4, Nat.le_refl _⟩
def txtR (ρ : mj_M) (t : Nat) (g : Nat → Int) (e : Nat → Nat) : Prop := (∀ p, p < 4 → ρ 42 0 (4 * t + p) = (e p : Int)) ∧ ∀ i, i < e 3 → ρ 41 0 (200 * t + i) = g i
theorem kc96 (d p t : Nat) (g : Nat → Int) (e : Nat → Nat) (nm : Nat → Int) (ρ : mj_M) (hp : p < 3) (ht : t < 6) (hrule : ρ 33 0 16 = (t : Int)) (hT : txtR ρ t g e) (hG : pTxt g e) (hnm : ∀ i, i < 6 → ρ 52 0 i = nm i) :
    mwI (kc (d + 2) 96 [v_r 33 0, v_i (p : Int)] ρ) (fun x ρ' => x = pW g e p nm ∧ fr (fS [51]) ρ ρ') := by
  obtain ⟨l1, l2, l3⟩ := pTxt_le hG hp
  have e1 : mj_w (mj_w (4 * (t : Int)) + (p : Int)) = ((4 * t + p : Nat) : Int) := by
    rw [wi (z := 4 * (t : Int)) (by omega) (by omega), wi (by omega) (by omega)]; omega
  rw [ke96_0, hrule, e1, if_pos (by omega), Int.toNat_natCast, hT.1 p (by omega)]
  exact kd96 d p t g nm (e (p + 1)) hp ht l2 (e (p + 1) - e p) (e p) [] none ρ (by omega) hrule (by rw [Nat.add_assoc]; exact hT.1 (p + 1) (by omega)) (fun i hi => hT.2 i (by omega)) hnm trivial (hG.2.2.2.2.2 p hp) (Nat.zero_le _)
/-- the three questions, bounded -/
def pAsk (g : Nat → Int) (e : Nat → Nat) (p : Nat) (nm : Nat → Int) : Int := if p = 0 then clampI (pW g e 0 nm) 1 60 else clampI (pW g e p nm) 0 999
theorem kc98 (d p a t : Nat) (sl wa sa : Int) (g : Nat → Int) (e : Nat → Nat) (ρ : mj_M) (hp : p < 3) (ha : a < 17) (ht : t < 6) (hrule : ρ 33 0 16 = (t : Int)) (hT : txtR ρ t g e) (hG : pTxt g e) :
    mwI (kc (d + 3) 98 [v_r 33 0, v_i (p : Int), v_i (a : Int), v_i sl, v_i wa, v_i sa] ρ) (fun x ρ' => x = pAsk g e p (pNm (ρ 37 0 a) (ρ 38 0 a) sl wa sa (ρ 36 0 a)) ∧ fr (fS [51, 52]) ρ ρ') := by
  rw [ke98_0, if_pos (by omega), if_pos (by omega), if_pos (by omega), Int.toNat_natCast]
  generalize hρ1 : mj_up (mj_up (mj_up (mj_up (mj_up (mj_up ρ 52 0 0 (ρ 37 0 a)) 52 0 1 (ρ 38 0 a)) 52 0 2 sl) 52 0 3 wa) 52 0 4 sa) 52 0 5 (ρ 36 0 a) = ρ1
  have hf1 : fr (fS [52]) ρ ρ1 := by
    rw [← hρ1]
    exact fr_tr (fr_tr (fr_tr (fr_tr (fr_tr (fr_up rfl) (fr_up rfl)) (fr_up rfl)) (fr_up rfl)) (fr_up rfl)) (fr_up rfl)
  have hnm : ∀ i, i < 6 → ρ1 52 0 i = pNm (ρ 37 0 a) (ρ 38 0 a) sl wa sa (ρ 36 0 a) i := by
    intro i hi
    rw [← hρ1]
    match i, hi with
    | 0, _ => simp [up_ap, pNm]
    | 1, _ => simp [up_ap, pNm]
    | 2, _ => simp [up_ap, pNm]
    | 3, _ => simp [up_ap, pNm]
    | 4, _ => simp [up_ap, pNm]
    | 5, _ => simp [up_ap, pNm]
  have hT1 : txtR ρ1 t g e := ⟨fun p hp => by rw [fS_rd hf1 rfl]; exact hT.1 p hp, fun i hi => by rw [fS_rd hf1 rfl]; exact hT.2 i hi⟩
  refine mwI_rI (mwI_mono (kc96 d p t g e _ ρ1 hp ht (by rw [fS_rd hf1 rfl]; exact hrule) hT1 hG hnm) (fun x ρ2 h => ?_))
  obtain ⟨rfl, hf2⟩ := h
  have hf : fr (fS [51, 52]) ρ ρ2 := fr_tr (fS_sub hf1 (fun s hs => by simp at hs ⊢; exact hs.2)) (fS_sub hf2 (fun s hs => by simp at hs ⊢; exact hs.1))
  unfold pAsk
  by_cases h0 : p = 0
  · have h0' : (p : Int) = 0 := by omega
    rw [if_pos h0', if_pos h0', kc73, rI_some, if_pos h0]
    exact mwI_ret ⟨by rw [h0], hf⟩
  · have h0' : ¬ (p : Int) = 0 := by omega
    rw [if_neg h0', if_neg h0', kc73, rI_some, if_neg h0]
    exact mwI_ret ⟨rfl, hf⟩
/-! the class's own -/
/-- a code as the class's row has it -/
def unc (c : Int) : Int := if 100000 ≤ c then c - 100000 else if c < 11 then -(c + 6) - 1 else if c = 11 then -4 else if c = 12 then -5 else if c = 13 then -6 else if c = 14 then -61 else if c = 15 then -62 else if c = 16 then -44 else if c = 17 then -46 else if c = 18 then -43 else -13
def txtC (μ : mj_M) (t : Nat) (g : Nat → Int) (e : Nat → Nat) : Prop := (∀ p, p < 3 → μ 11 t p = (e (p + 1) : Int)) ∧ ∀ i, i < e 3 → μ 10 t i = unc (g i)
theorem kc216 (d : Nat) (c x y : Int) (μ : mj_M) (h : c = 11 ∨ c = 12 ∨ (14 ≤ c ∧ c ≤ 18)) : kc (d + 1) 216 [v_i (-(unc c) - 1), v_i x, v_i y] μ = some (some (v_i (pTwo c x y)), μ) := by
  have : c = 11 ∨ c = 12 ∨ c = 14 ∨ c = 15 ∨ c = 16 ∨ c = 17 ∨ c = 18 := by omega
  rcases this with rfl | rfl | rfl | rfl | rfl | rfl | rfl
  · rw [show (-(unc 11) - 1 : Int) = 3 from by decide, ke216_0, show pTwo 11 x y = (if x = 0 then (if y = 0 then 0 else 1) else 1) from rfl, if_pos rfl]; repeat' split
    all_goals rfl
  · rw [show (-(unc 12) - 1 : Int) = 4 from by decide, ke216_0, show pTwo 12 x y = (if x = 0 then 0 else (if y = 0 then 0 else 1)) from rfl, if_neg (show ¬ (4 : Int) = 3 by decide), if_pos rfl]; repeat' split
    all_goals rfl
  · rw [show (-(unc 14) - 1 : Int) = 60 from by decide, ke216_0, show pTwo 14 x y = (if x < y then 1 else 0) from rfl]
    show (if x < y then _ else _) = _
    split <;> rfl
  · rw [show (-(unc 15) - 1 : Int) = 61 from by decide, ke216_0, show pTwo 15 x y = (if x = y then 1 else 0) from rfl]
    show (if x = y then _ else _) = _
    split <;> rfl
  · rw [show (-(unc 16) - 1 : Int) = 43 from by decide, ke216_0]; rfl
  · rw [show (-(unc 17) - 1 : Int) = 45 from by decide, ke216_0]; rfl
  · rw [show (-(unc 18) - 1 : Int) = 42 from by decide, ke216_0]; rfl
/-- the class: from place k of the codes on -/
theorem kd215 (d i : Nat) (p : Nat) (g : Nat → Int) (nm : Nat → Int) (e1 : Nat) (hp : p < 3) (h1 : e1 ≤ 160) :
    ∀ (j k : Nat) (st : List Int) (o2 o3 o4 o5 o8 o9 oA : Option mj_V) (ρ : mj_M), k + j = e1 → ρ 11 i p = (e1 : Int) → (∀ q, q < e1 → ρ 10 i q = unc (g q)) → (∀ q, q < 6 → ρ 13 i q = nm q) → rep (ρ 12 i) st → pOK (seg g k j) st.length → st.length ≤ 32 →
      mwI (kd (d + 1) 215 3 [some (v_r 9 i), some (v_i (p : Int)), o2, o3, o4, o5, some (v_i (st.length : Int)), some (v_i (k : Int)), o8, o9, oA] [] ρ) (fun x ρ' => x = pTop (pRun nm (seg g k j) st) ∧ fr (fS [12]) ρ ρ') := by
  intro j
  induction j with
  | zero =>
    intro k st o2 o3 o4 o5 o8 o9 oA ρ hk hs hc hnm hr hok hl
    have hst : st.length = 1 := hok
    rw [ke215_3, if_pos (by omega), Int.toNat_natCast, hs, if_neg (by omega), if_pos (by omega)]
    refine mwI_ret ⟨?_, fr_rf⟩
    match st, hst, hr with
    | [x], _, hr => exact hr.1
  | succ j ih =>
    intro k st o2 o3 o4 o5 o8 o9 oA ρ hk hs hc hnm hr hok hl
    have hgk := hc k (by omega)
    obtain ⟨hcode, hok⟩ := hok
    rw [ke215_3, if_pos (by omega), Int.toNat_natCast, hs, if_pos (by omega), if_pos (by omega), Int.toNat_natCast, hgk]
    have next : ∀ (st' : List Int) (s' : Nat) (x' : Int), rep (mj_up ρ 12 i s' x' 12 i) st' → pOK (seg g (k + 1) j) st'.length → st'.length ≤ 32 → pRun nm (seg g k (j + 1)) st = pRun nm (seg g (k + 1) j) st' →
        mwI (kd (d + 1) 215 3 [some (v_r 9 i), some (v_i (p : Int)), none, none, none, none, some (v_i (st'.length : Int)), some (v_i (mj_w ((k : Int) + 1))), none, none, none] [] (mj_up ρ 12 i s' x')) (fun x ρ' => x = pTop (pRun nm (seg g k (j + 1)) st) ∧ fr (fS [12]) ρ ρ') := by
      intro st' s' x' hr' hok' hl' he
      rw [he, wi (z := (k : Int) + 1) (by omega) (by omega), show (k : Int) + 1 = ((k + 1 : Nat) : Int) by omega]
      refine mwI_mono (ih (k + 1) st' _ _ _ _ _ _ _ _ (by omega) ?_ (fun q hq => ?_) (fun q hq => ?_) hr' hok' hl') (fun x ρ' h => ⟨h.1, fr_tr (fr_up rfl) h.2⟩)
      · rw [up_ns (by decide)]; exact hs
      · rw [up_ns (by decide)]; exact hc q hq
      · rw [up_ns (by decide)]; exact hnm q hq
    have hrun : pRun nm (seg g k (j + 1)) st = pRun nm (seg g (k + 1) j) (pStep nm (g k) st) := rfl
    by_cases hbig : 100000 ≤ g k
    · rw [if_pos hbig] at hok
      have hu : unc (g k) = g k - 100000 := by unfold unc; rw [if_pos hbig]
      have hl1 : mj_w ((st.length : Int) + 1) = (((g k - 100000) :: st).length : Int) := by rw [wi (by omega) (by omega), List.length_cons]; omega
      rw [hu, if_pos (by omega), ke215_5, if_pos (by omega), ke215_6, if_pos (by omega), if_pos rfl, if_pos (by omega), if_pos (by omega), Int.toNat_natCast, Int.toNat_natCast, hgk, hu, hl1]
      exact next ((g k - 100000) :: st) st.length _ (rep_top hr) hok.2 (by rw [List.length_cons]; omega) (by rw [hrun]; unfold pStep; rw [if_pos hbig])
    rw [if_neg hbig] at hok
    by_cases hname : g k < 11
    · rw [if_pos hname] at hok
      have hc6 : 0 ≤ g k ∧ g k < 6 := by unfold pCode at hcode; omega
      have hu : unc (g k) = -(g k + 6) - 1 := by unfold unc; rw [if_neg hbig, if_pos hname]
      have hu2 : -(-(g k + 6) - 1) - 1 = g k + 6 := by omega
      have hu3 : mj_w (g k + 6 - 6) = g k := by rw [wi (by omega) (by omega)]; omega
      have hl1 : mj_w ((st.length : Int) + 1) = ((nm (g k).toNat :: st).length : Int) := by rw [wi (by omega) (by omega), List.length_cons]; omega
      rw [hu, hu2, if_neg (by omega), if_neg (by omega), ke215_5, if_neg (by omega), if_neg (by decide), ke215_6, if_pos (by omega), if_neg (by decide), hu3, if_pos (by omega), if_pos (by omega), Int.toNat_natCast, hnm _ (by omega), hl1]
      exact next (nm (g k).toNat :: st) st.length _ (rep_top hr) hok.2 (by rw [List.length_cons]; omega) (by rw [hrun]; unfold pStep; rw [if_neg hbig, if_pos hname])
    rw [if_neg hname] at hok
    by_cases h13 : g k = 13
    · rw [if_pos h13] at hok
      match st, hr, hok, hl, next, hrun with
      | [], _, hok, _, _, _ => exact absurd hok.1 (by simp)
      | x :: tl, hr, hok, hl, next, hrun =>
        have hlen : ((x :: tl).length : Int) = ((tl.length + 1 : Nat) : Int) := by rw [List.length_cons]
        have hl' : tl.length + 1 ≤ 32 := hl
        have hw1 : mj_w (((x :: tl).length : Int) - 1) = (tl.length : Int) := by rw [hlen, wi (by omega) (by omega)]; omega
        have hu : -unc (g k) - 1 = 5 := by rw [h13]; decide
        have hstep : pStep nm (g k) (x :: tl) = (if x = 0 then 1 else 0) :: tl := by unfold pStep; rw [if_neg hbig, if_neg hname, if_pos h13]
        rw [hu, if_pos (by decide), ke215_5, if_neg (by decide), if_pos rfl, if_pos rfl, ke215_10, hw1, if_pos (by omega), if_pos (by omega), if_neg (by decide), Int.toNat_natCast, hr.1]
        by_cases hx : x = 0
        · rw [if_pos hx, if_pos (by omega)]
          exact next (1 :: tl) tl.length 1 (rep_top hr.2) hok.2 hl (by rw [hrun, hstep, if_pos hx])
        · rw [if_neg hx, if_pos (by omega)]
          exact next (0 :: tl) tl.length 0 (rep_top hr.2) hok.2 hl (by rw [hrun, hstep, if_neg hx])
    rw [if_neg h13] at hok
    by_cases h19 : g k = 19
    · rw [if_pos h19] at hok
      match st, hr, hok, hl, next, hrun with
      | [], _, hok, _, _, _ => exact absurd hok.1 (by simp)
      | x :: tl, hr, hok, hl, next, hrun =>
        have hlen : ((x :: tl).length : Int) = ((tl.length + 1 : Nat) : Int) := by rw [List.length_cons]
        have hl' : tl.length + 1 ≤ 32 := hl
        have hw1 : mj_w (((x :: tl).length : Int) - 1) = (tl.length : Int) := by rw [hlen, wi (by omega) (by omega)]; omega
        have hu : -unc (g k) - 1 = 12 := by rw [h19]; decide
        have hstep : pStep nm (g k) (x :: tl) = mj_w (-x) :: tl := by unfold pStep; rw [if_neg hbig, if_neg hname, if_neg h13, if_pos h19]
        rw [hu, if_neg (by decide), if_pos (by decide), ke215_5, if_neg (by decide), if_pos rfl, if_neg (by decide), if_pos rfl, ke215_10, hw1, if_pos (by omega), if_pos (by omega), if_pos rfl, if_pos (by omega), Int.toNat_natCast, hr.1]
        exact next (mj_w (-x) :: tl) tl.length _ (rep_top hr.2) hok.2 hl (by rw [hrun, hstep])
    rw [if_neg h19] at hok
    match st, hr, hok, hl, next, hrun with
    | [], _, hok, _, _, _ => exact absurd hok.1 (by simp)
    | [_], _, hok, _, _, _ => exact absurd hok.1 (by simp)
    | y :: x :: tl, hr, hok, hl, next, hrun =>
      have hlen : ((y :: x :: tl).length : Int) = ((tl.length + 2 : Nat) : Int) := by rw [List.length_cons, List.length_cons]
      have hl' : tl.length + 2 ≤ 32 := hl
      have hw1 : mj_w (((y :: x :: tl).length : Int) + -1) = ((tl.length + 1 : Nat) : Int) := by rw [hlen, wi (by omega) (by omega)]; omega
      have hw2 : mj_w (((tl.length + 1 : Nat) : Int) - 1) = (tl.length : Int) := by rw [wi (by omega) (by omega)]; omega
      have hstep : pStep nm (g k) (y :: x :: tl) = pTwo (g k) x y :: tl := by unfold pStep; rw [if_neg hbig, if_neg hname, if_neg h13, if_neg h19]
      have hcc : g k = 11 ∨ g k = 12 ∨ (14 ≤ g k ∧ g k ≤ 18) := by unfold pCode at hcode; omega
      have hu : ∀ P : Prop, ((-unc (g k) - 1 < 6 ∨ 11 < -unc (g k) - 1) → 0 ≤ -unc (g k) - 1 → ¬ -unc (g k) - 1 = 5 → ¬ -unc (g k) - 1 = 12 → P) → P := by
        intro P hP
        have : g k = 11 ∨ g k = 12 ∨ g k = 14 ∨ g k = 15 ∨ g k = 16 ∨ g k = 17 ∨ g k = 18 := by omega
        rcases this with h | h | h | h | h | h | h
        all_goals (rw [h] at hP; exact hP (by decide) (by decide) (by decide) (by decide))
      refine hu _ (fun u1 u2 u3 u4 => ?_)
      have main : ∀ o o', mwI (kd (d + 1) 215 5 [some (v_r 9 i), some (v_i (p : Int)), none, none, none, none, some (v_i ((y :: x :: tl).length : Int)), some (v_i (k : Int)), some (v_i (-unc (g k) - 1)), o, o'] [v_i 0] ρ) (fun x' ρ' => x' = pTop (pRun nm (seg g k (j + 1)) (y :: x :: tl)) ∧ fr (fS [12]) ρ ρ') := by
        intro o o'
        rw [ke215_5, if_neg (by omega), if_pos rfl, if_neg u3, if_neg u4, hw1, hw2, if_pos (by omega), if_pos (by omega), if_pos (by omega), Int.toNat_natCast, Int.toNat_natCast, hr.2.1, show ρ 12 i (tl.length + 1) = y from hr.1, kc216 d _ _ _ _ hcc, rI_some, if_pos (by omega)]
        exact next (pTwo (g k) x y :: tl) tl.length _ (rep_top hr.2.2) hok.2 (by rw [List.length_cons]; omega) (by rw [hrun, hstep])
      rcases u1 with u1 | u1
      · rw [if_pos u1]; exact main _ _
      · rw [if_neg (by omega), if_pos u1]; exact main _ _
theorem kc215 (d p t a : Nat) (wa sl sa : Int) (g : Nat → Int) (e : Nat → Nat) (μ : mj_M) (hp : p < 3) (hT : txtC μ t g e) (hG : pTxt g e) :
    mwI (kc (d + 2) 215 [v_r 9 t, v_i (p : Int), v_r 7 a, v_i wa, v_i sl, v_i sa] μ) (fun x μ' => x = pW g e p (pNm (μ 7 a 2) (μ 7 a 3) sl wa sa (μ 7 a 1)) ∧ fr (fS [12, 13]) μ μ') := by
  obtain ⟨l1, l2, l3⟩ := pTxt_le hG hp
  rw [ke215_0]
  generalize hρ1 : mj_up (mj_up (mj_up (mj_up (mj_up (mj_up μ 13 t 0 (μ 7 a 2)) 13 t 1 (μ 7 a 3)) 13 t 2 sl) 13 t 3 wa) 13 t 4 sa) 13 t 5 (μ 7 a 1) = ρ1
  have hf1 : fr (fS [13]) μ ρ1 := by
    rw [← hρ1]
    exact fr_tr (fr_tr (fr_tr (fr_tr (fr_tr (fr_up rfl) (fr_up rfl)) (fr_up rfl)) (fr_up rfl)) (fr_up rfl)) (fr_up rfl)
  have hnm : ∀ q, q < 6 → ρ1 13 t q = pNm (μ 7 a 2) (μ 7 a 3) sl wa sa (μ 7 a 1) q := by
    intro q hq
    rw [← hρ1]
    match q, hq with
    | 0, _ => simp [up_ap, pNm]
    | 1, _ => simp [up_ap, pNm]
    | 2, _ => simp [up_ap, pNm]
    | 3, _ => simp [up_ap, pNm]
    | 4, _ => simp [up_ap, pNm]
    | 5, _ => simp [up_ap, pNm]
  have fin : mwI (kd (d + 1) 215 3 [some (v_r 9 t), some (v_i (p : Int)), none, none, none, none, some (v_i (([] : List Int).length : Int)), some (v_i (e p : Int)), none, none, none] [] ρ1) (fun x μ' => x = pW g e p (pNm (μ 7 a 2) (μ 7 a 3) sl wa sa (μ 7 a 1)) ∧ fr (fS [12, 13]) μ μ') := by
    refine mwI_mono (kd215 d t p g _ (e (p + 1)) hp l2 (e (p + 1) - e p) (e p) [] none none none none none none none ρ1 (by omega) (by rw [fS_rd hf1 rfl]; exact hT.1 p hp) (fun q hq => by rw [fS_rd hf1 rfl]; exact hT.2 q (by omega)) hnm trivial (hG.2.2.2.2.2 p hp) (Nat.zero_le _)) (fun x μ' h => ⟨h.1, fr_tr (fS_sub hf1 (fun s hs => by simp at hs ⊢; exact hs.2)) (fS_sub h.2 (fun s hs => by simp at hs ⊢; exact hs.1))⟩)
  by_cases h0 : p = 0
  · have h0' : (p : Int) = 0 := by omega
    rw [if_pos h0']
    have : (e p : Int) = 0 := by rw [h0, hG.1]; rfl
    rw [this] at fin
    exact fin
  · have h0' : ¬ (p : Int) = 0 := by omega
    have h1 : mj_w ((p : Int) - 1) = ((p - 1 : Nat) : Int) := by rw [wi (by omega) (by omega)]; omega
    rw [if_neg h0', h1, if_pos (by omega), Int.toNat_natCast, hT.1 (p - 1) (by omega), show p - 1 + 1 = p by omega]
    exact fin
