/-! a day, with no memory; and that the reference lives it -/
/-- what a day is lived by: how many counters and askers; rows: 0 who called stop quick right, 1 does, 2 slow, 3 pause, 4 comes, 5 kind, 6 letter, 7 base, 8 more, 9 the law's codes; the law's bounds -/
def pI : Type := (Nat × Nat) × (Nat → Nat → Int) × (Nat → Nat)
def pI.n (I : pI) : Nat := I.1.1
def pI.m (I : pI) : Nat := I.1.2
def pI.who (I : pI) : Int := I.2.1 0 0
def pI.called (I : pI) : Int := I.2.1 0 1
def pI.stop (I : pI) : Int := I.2.1 0 2
def pI.quick (I : pI) : Int := I.2.1 0 3
def pI.right (I : pI) : Int := I.2.1 0 4
def pI.does (I : pI) : Nat → Int := I.2.1 1
def pI.slow (I : pI) : Nat → Int := I.2.1 2
def pI.pause (I : pI) : Nat → Int := I.2.1 3
def pI.comes (I : pI) : Nat → Int := I.2.1 4
def pI.kind (I : pI) : Nat → Int := I.2.1 5
def pI.letter (I : pI) : Nat → Int := I.2.1 6
def pI.base (I : pI) : Nat → Int := I.2.1 7
def pI.more (I : pI) : Nat → Int := I.2.1 8
def pI.g (I : pI) : Nat → Int := I.2.1 9
def pI.e (I : pI) : Nat → Nat := I.2.2
/-- how a day stands: rows 0 state, 1 wants, 2 began, 3 ended, 4 served at, 5 calls, 6 busy till, 7 idle -/
def pZ : Type := Nat → Nat → Int
def zU (Z : pZ) (r k : Nat) (x : Int) : pZ := fun r' k' => if r' = r ∧ k' = k then x else Z r' k'
/-- what may stand -/
def iOK (I : pI) : Prop := I.n ≤ 4 ∧ I.m ≤ 16 ∧ (∀ c, c < I.n → 0 ≤ I.does c ∧ I.does c ≤ 15) ∧ (∀ c, c < I.n → -1 ≤ I.pause c ∧ I.pause c ≤ 119) ∧ (∀ a, a < I.m → 0 ≤ I.comes a ∧ I.comes a ≤ 119) ∧ (∀ a, a < I.m → 0 ≤ I.letter a ∧ I.letter a ≤ 3) ∧ (∀ a, a < I.m → 0 ≤ I.base a ∧ I.base a ≤ 99) ∧ (∀ a, a < I.m → 0 ≤ I.more a ∧ I.more a ≤ 9) ∧ pTxt I.g I.e
theorem iOK.n {I : pI} (h : iOK I) : I.n ≤ 4 := h.1
theorem iOK.m {I : pI} (h : iOK I) : I.m ≤ 16 := h.2.1
theorem iOK.does {I : pI} (h : iOK I) : ∀ c, c < I.n → 0 ≤ I.does c ∧ I.does c ≤ 15 := h.2.2.1
theorem iOK.pause {I : pI} (h : iOK I) : ∀ c, c < I.n → -1 ≤ I.pause c ∧ I.pause c ≤ 119 := h.2.2.2.1
theorem iOK.comes {I : pI} (h : iOK I) : ∀ a, a < I.m → 0 ≤ I.comes a ∧ I.comes a ≤ 119 := h.2.2.2.2.1
theorem iOK.letter {I : pI} (h : iOK I) : ∀ a, a < I.m → 0 ≤ I.letter a ∧ I.letter a ≤ 3 := h.2.2.2.2.2.1
theorem iOK.base {I : pI} (h : iOK I) : ∀ a, a < I.m → 0 ≤ I.base a ∧ I.base a ≤ 99 := h.2.2.2.2.2.2.1
theorem iOK.more {I : pI} (h : iOK I) : ∀ a, a < I.m → 0 ≤ I.more a ∧ I.more a ≤ 9 := h.2.2.2.2.2.2.2.1
theorem iOK.txt {I : pI} (h : iOK I) : pTxt I.g I.e := h.2.2.2.2.2.2.2.2
def pAskNm (I : pI) (a : Nat) (sl wa sa : Int) : Nat → Int := pNm (I.base a) (I.more a) sl wa sa (I.letter a)
def pNeeds (I : pI) (a : Nat) : Int := if I.kind a = 2 then (mj_w (I.letter a + 1)).tmod 4 else I.letter a
theorem pNeeds_03 {I : pI} (h : iOK I) {a : Nat} (ha : a < I.m) : 0 ≤ pNeeds I a ∧ pNeeds I a < 4 := by
  have := h.letter a ha
  unfold pNeeds
  split
  · rw [wi (by omega) (by omega), Int.tmod_eq_emod_of_nonneg (by omega)]; omega
  · omega
abbrev pOff (I : pI) (a : Nat) (w : Int) : Prop := (I.kind a = 1 ∨ I.kind a = 5) ∧ (mj_w (w.tdiv (mj_w (I.more a + 2)))).tmod 2 = 1
abbrev pThere (I : pI) (a : Nat) (w : Int) : Prop := (I.kind a = 5 ∧ ¬ w < 30) ∨ (¬ pOff I a w ∧ ¬ pAsk I.g I.e 1 (pAskNm I a 0 w 0) < w)
def pTakes (I : pI) (a c : Nat) (w : Int) : Int :=
  if I.kind a = 3 then (if I.quick = 0 then clampI (mj_w (2 * pAsk I.g I.e 0 (pAskNm I a (I.slow c) w 0))) 1 60 else pAsk I.g I.e 0 (pAskNm I a (I.slow c) w 0)) else pAsk I.g I.e 0 (pAskNm I a (I.slow c) w 0)
def pRank (I : pI) (a : Nat) : Int := if I.who = 1 then (if I.kind a = 4 then 0 else 1) else if I.who = 2 then I.base a else if I.who = 3 then (if I.kind a = 3 then 0 else 1) else 0
def pKey (I : pI) (a : Nat) : Int := (pRank I a * 120 + I.comes a) * 16 + (a : Int)
def pBit (x k : Int) : Int := (((x / 2 ^ k.toNat).toNat &&& 1 : Nat) : Int)
/-- the first of those who may be called -/
def pBest (P : Nat → Prop) [∀ k, Decidable (P k)] (key : Nat → Int) : Nat → Int
  | 0 => -1
  | k + 1 => if P k then (if pBest P key k = -1 then (k : Int) else if key k < key (pBest P key k).toNat then (k : Int) else pBest P key k) else pBest P key k
abbrev pFor (I : pI) (Z : pZ) (c : Nat) (a : Nat) : Prop := Z 0 a = 1 ∧ pBit (I.does c) (Z 1 a) = 1
def pFirst (I : pI) (Z : pZ) (c : Nat) : Int := pBest (pFor I Z c) (pKey I) I.m
def pCall (I : pI) (c a : Nat) (t : Int) (Z : pZ) : pZ :=
  if pThere I a (mj_w (t - I.comes a)) then
    (if pBit (I.does c) (pNeeds I a) = 0 then zU (zU Z 5 a (mj_w (Z 5 a + 1))) 1 a (pNeeds I a)
     else zU (zU (zU (zU (zU (zU Z 5 a (mj_w (Z 5 a + 1))) 0 a 2) 2 a t) 3 a (mj_w (t + pTakes I a c (mj_w (t - I.comes a))))) 4 a (c : Int)) 6 c (mj_w (t + pTakes I a c (mj_w (t - I.comes a)))))
  else zU (zU Z 5 a (mj_w (Z 5 a + 1))) 0 a (if mj_w (Z 5 a + 1) < I.called then 1 else 3)
abbrev pPausing (I : pI) (c : Nat) (t : Int) : Prop := ¬ I.pause c = -1 ∧ I.pause c ≤ t ∧ t ≤ I.pause c + 9
def pCounter (I : pI) (t : Int) (c : Nat) (Z : pZ) : pZ :=
  if t < Z 6 c then Z else if pPausing I c t then Z else if pFirst I Z c = -1 then zU Z 7 c (mj_w (Z 7 c + 1)) else pCall I c (pFirst I Z c).toNat t Z
def pComes (I : pI) (t : Int) (Z : pZ) : pZ := fun r a => if r = 0 ∧ a < I.m ∧ I.comes a = t then (if t < I.stop then 1 else 4) else Z r a
def pCounters (I : pI) (t : Int) : Nat → pZ → pZ
  | 0, Z => Z
  | c + 1, Z => pCounter I t c (pCounters I t c Z)
def pMinute (I : pI) (t : Int) (Z : pZ) : pZ := pCounters I t I.n (pComes I t Z)
def pBegin (I : pI) : pZ := fun r a => match r with
  | 1 => if I.right = 0 then I.letter a else pNeeds I a
  | 2 => -1
  | 3 => -1
  | 4 => -1
  | _ => 0
def pDay (I : pI) : Nat → pZ
  | 0 => pBegin I
  | t + 1 => pMinute I (t : Int) (pDay I t)
def pLife (I : pI) : pZ := pDay I 240
/-! rows -/
def row (μ : mj_M) (s i : Nat) (f : Nat → Int) (n : Nat) : Prop := ∀ k, k < n → μ s i k = f k
theorem row_ns {μ : mj_M} {s i s' i' : Nat} {f : Nat → Int} {n k : Nat} {x : Int} (h : row μ s i f n) (q : s ≠ s') : row (mj_up μ s' i' k x) s i f n := fun j hj => by rw [up_ns q]; exact h j hj
theorem row_fr {l : List Nat} {μ μ' : mj_M} {s i : Nat} {f : Nat → Int} {n : Nat} (hf : fr (fS l) μ μ') (h : row μ s i f n) (q : l.contains s = false) : row μ' s i f n := fun j hj => by rw [fS_rd hf q]; exact h j hj
/-! the reference -/
def iR (ρ : mj_M) (I : pI) (t : Nat) : Prop := (ρ 33 0 0 = (I.n : Int)) ∧ (ρ 33 0 5 = (I.m : Int)) ∧ (ρ 33 0 2 = I.who) ∧ (ρ 33 0 3 = I.called) ∧ (ρ 33 0 4 = I.stop) ∧ (ρ 33 0 41 = I.quick) ∧ (ρ 33 0 50 = I.right) ∧ (∀ c, c < I.n → ρ 34 0 (3 * c) = I.does c) ∧ (∀ c, c < I.n → ρ 34 0 (3 * c + 1) = I.slow c) ∧ (∀ c, c < I.n → ρ 34 0 (3 * c + 2) = I.pause c) ∧ (row ρ 35 0 I.kind I.m) ∧ (row ρ 36 0 I.letter I.m) ∧ (row ρ 37 0 I.base I.m) ∧ (row ρ 38 0 I.more I.m) ∧ (row ρ 39 0 I.comes I.m) ∧ (ρ 33 0 16 = (t : Int)) ∧ (t < 6) ∧ (txtR ρ t I.g I.e)
theorem iR.n {ρ : mj_M} {I : pI} {t : Nat} (h : iR ρ I t) : ρ 33 0 0 = (I.n : Int) := h.1
theorem iR.m {ρ : mj_M} {I : pI} {t : Nat} (h : iR ρ I t) : ρ 33 0 5 = (I.m : Int) := h.2.1
theorem iR.who {ρ : mj_M} {I : pI} {t : Nat} (h : iR ρ I t) : ρ 33 0 2 = I.who := h.2.2.1
theorem iR.called {ρ : mj_M} {I : pI} {t : Nat} (h : iR ρ I t) : ρ 33 0 3 = I.called := h.2.2.2.1
theorem iR.stop {ρ : mj_M} {I : pI} {t : Nat} (h : iR ρ I t) : ρ 33 0 4 = I.stop := h.2.2.2.2.1
theorem iR.quick {ρ : mj_M} {I : pI} {t : Nat} (h : iR ρ I t) : ρ 33 0 41 = I.quick := h.2.2.2.2.2.1
theorem iR.right {ρ : mj_M} {I : pI} {t : Nat} (h : iR ρ I t) : ρ 33 0 50 = I.right := h.2.2.2.2.2.2.1
theorem iR.does {ρ : mj_M} {I : pI} {t : Nat} (h : iR ρ I t) : ∀ c, c < I.n → ρ 34 0 (3 * c) = I.does c := h.2.2.2.2.2.2.2.1
theorem iR.slow {ρ : mj_M} {I : pI} {t : Nat} (h : iR ρ I t) : ∀ c, c < I.n → ρ 34 0 (3 * c + 1) = I.slow c := h.2.2.2.2.2.2.2.2.1
theorem iR.pause {ρ : mj_M} {I : pI} {t : Nat} (h : iR ρ I t) : ∀ c, c < I.n → ρ 34 0 (3 * c + 2) = I.pause c := h.2.2.2.2.2.2.2.2.2.1
theorem iR.kind {ρ : mj_M} {I : pI} {t : Nat} (h : iR ρ I t) : row ρ 35 0 I.kind I.m := h.2.2.2.2.2.2.2.2.2.2.1
theorem iR.letter {ρ : mj_M} {I : pI} {t : Nat} (h : iR ρ I t) : row ρ 36 0 I.letter I.m := h.2.2.2.2.2.2.2.2.2.2.2.1
theorem iR.base {ρ : mj_M} {I : pI} {t : Nat} (h : iR ρ I t) : row ρ 37 0 I.base I.m := h.2.2.2.2.2.2.2.2.2.2.2.2.1
theorem iR.more {ρ : mj_M} {I : pI} {t : Nat} (h : iR ρ I t) : row ρ 38 0 I.more I.m := h.2.2.2.2.2.2.2.2.2.2.2.2.2.1
theorem iR.comes {ρ : mj_M} {I : pI} {t : Nat} (h : iR ρ I t) : row ρ 39 0 I.comes I.m := h.2.2.2.2.2.2.2.2.2.2.2.2.2.2.1
theorem iR.rule {ρ : mj_M} {I : pI} {t : Nat} (h : iR ρ I t) : ρ 33 0 16 = (t : Int) := h.2.2.2.2.2.2.2.2.2.2.2.2.2.2.2.1
theorem iR.law {ρ : mj_M} {I : pI} {t : Nat} (h : iR ρ I t) : t < 6 := h.2.2.2.2.2.2.2.2.2.2.2.2.2.2.2.2.1
theorem iR.txt {ρ : mj_M} {I : pI} {t : Nat} (h : iR ρ I t) : txtR ρ t I.g I.e := h.2.2.2.2.2.2.2.2.2.2.2.2.2.2.2.2.2
theorem iR_fr {l : List Nat} {ρ ρ' : mj_M} {I : pI} {t : Nat} (h : iR ρ I t) (hf : fr (fS l) ρ ρ') (q : ∀ s, s ∈ [33, 34, 35, 36, 37, 38, 39, 41, 42] → l.contains s = false) : iR ρ' I t := by
  have r : ∀ s, s ∈ [33, 34, 35, 36, 37, 38, 39, 41, 42] → ∀ i k, ρ' s i k = ρ s i k := fun s hs i k => fS_rd hf (q s hs) i k
  refine ⟨?_, ?_, ?_, ?_, ?_, ?_, ?_, ?_, ?_, ?_, ?_, ?_, ?_, ?_, ?_, ?_, ?_, ?_⟩
  · rw [r 33 (by decide)]; exact h.n
  · rw [r 33 (by decide)]; exact h.m
  · rw [r 33 (by decide)]; exact h.who
  · rw [r 33 (by decide)]; exact h.called
  · rw [r 33 (by decide)]; exact h.stop
  · rw [r 33 (by decide)]; exact h.quick
  · rw [r 33 (by decide)]; exact h.right
  · intro c hc; rw [r 34 (by decide)]; exact h.does c hc
  · intro c hc; rw [r 34 (by decide)]; exact h.slow c hc
  · intro c hc; rw [r 34 (by decide)]; exact h.pause c hc
  · exact row_fr hf h.kind (q 35 (by decide))
  · exact row_fr hf h.letter (q 36 (by decide))
  · exact row_fr hf h.base (q 37 (by decide))
  · exact row_fr hf h.more (q 38 (by decide))
  · exact row_fr hf h.comes (q 39 (by decide))
  · rw [r 33 (by decide)]; exact h.rule
  · exact h.law
  · exact ⟨fun p hp => by rw [r 42 (by decide)]; exact h.txt.1 p hp, fun i hi => by rw [r 41 (by decide)]; exact h.txt.2 i hi⟩
theorem kc103 (d a : Nat) (ρ : mj_M) (I : pI) (t : Nat) (hI : iR ρ I t) (hO : iOK I) (ha : a < I.m) : kc (d + 1) 103 [v_r 33 0, v_i (a : Int)] ρ = some (some (v_i (pNeeds I a)), ρ) := by
  have := hO.m
  have hb : 0 ≤ (a : Int) ∧ (a : Int) < 17 := by omega
  rw [ke103_0, if_pos hb, if_pos hb, if_pos hb, Int.toNat_natCast, hI.kind a ha, hI.letter a ha]
  unfold pNeeds
  split <;> rfl
theorem kc105 (d a c : Nat) (w : Int) (ρ : mj_M) (I : pI) (t : Nat) (hI : iR ρ I t) (hO : iOK I) (ha : a < I.m) (hc : c < I.n) :
    mwI (kc (d + 4) 105 [v_r 33 0, v_i (a : Int), v_i (c : Int), v_i w] ρ) (fun x ρ' => x = pTakes I a c w ∧ fr (fS [51, 52]) ρ ρ') := by
  have := hO.m; have := hO.n
  have e1 : mj_w (mj_w (3 * (c : Int)) + 1) = ((3 * c + 1 : Nat) : Int) := by
    rw [wi (z := 3 * (c : Int)) (by omega) (by omega), wi (by omega) (by omega)]; omega
  rw [ke105_0, e1, if_pos (by omega), Int.toNat_natCast, hI.slow c hc]
  refine mwI_rI (mwI_mono (kc98 d 0 a t (I.slow c) w 0 I.g I.e ρ (by decide) (by omega) hI.law hI.rule hI.txt hO.txt) (fun x ρ2 h => ?_))
  obtain ⟨rfl, hf⟩ := h
  have hI2 := iR_fr hI hf (by decide)
  rw [if_pos (by omega), Int.toNat_natCast, hI2.kind a ha, hI2.quick, hI.base a ha, hI.more a ha, hI.letter a ha]
  unfold pTakes pAskNm
  by_cases h3 : I.kind a = 3
  · rw [if_pos h3, if_pos h3]
    by_cases hq : I.quick = 0
    · rw [if_pos hq, if_pos hq, kc73, rI_some]; exact mwI_ret ⟨rfl, hf⟩
    · rw [if_neg hq, if_neg hq]; exact mwI_ret ⟨rfl, hf⟩
  · rw [if_neg h3, if_neg h3]; exact mwI_ret ⟨rfl, hf⟩
theorem kc106 (d a : Nat) (w : Int) (ρ : mj_M) (I : pI) (t : Nat) (hI : iR ρ I t) (hO : iOK I) (ha : a < I.m) :
    mwI (kc (d + 4) 106 [v_r 33 0, v_i (a : Int), v_i w] ρ) (fun x ρ' => x = b01 (pThere I a w) ∧ fr (fS [51, 52]) ρ ρ') := by
  have := hO.m
  have hm := hO.more a ha
  have hb : 0 ≤ (a : Int) ∧ (a : Int) < 17 := by omega
  have h4 : ∀ (o : Option mj_V) (s : Int), ¬ (I.kind a = 5 ∧ ¬ w < 30) → s = b01 (pOff I a w) → mwI (kd (d + 3) 106 4 [some (v_r 33 0), some (v_i (a : Int)), some (v_i w), o] [v_i s] ρ) (fun x ρ' => x = b01 (pThere I a w) ∧ fr (fS [51, 52]) ρ ρ') := by
    intro o s h5 hs
    rw [ke106_4, hs]
    by_cases hoff : pOff I a w
    · rw [b01_t hoff, if_neg (by decide)]
      exact mwI_ret ⟨(b01_f (fun q => q.elim h5 (fun q => q.1 hoff))).symm, fr_rf⟩
    · rw [b01_f hoff, if_pos rfl]
      refine mwI_rI (mwI_mono (kc98 d 1 a t 0 w 0 I.g I.e ρ (by decide) (by omega) hI.law hI.rule hI.txt hO.txt) (fun x ρ2 h => ?_))
      obtain ⟨rfl, hf⟩ := h
      rw [hI.base a ha, hI.more a ha, hI.letter a ha]
      by_cases hx : pAsk I.g I.e 1 (pAskNm I a 0 w 0) < w
      · unfold pAskNm at hx
        rw [if_pos hx]
        exact mwI_ret ⟨(b01_f (fun q => q.elim h5 (fun q => q.2 hx))).symm, hf⟩
      · have hx' := hx
        unfold pAskNm at hx
        rw [if_neg hx]
        exact mwI_ret ⟨(b01_t (Or.inr ⟨hoff, hx'⟩)).symm, hf⟩
  have h2 : ∀ o : Option mj_V, ¬ (I.kind a = 5 ∧ ¬ w < 30) → (I.kind a = 1 ∨ I.kind a = 5) → mwI (kd (d + 3) 106 2 [some (v_r 33 0), some (v_i (a : Int)), some (v_i w), o] [] ρ) (fun x ρ' => x = b01 (pThere I a w) ∧ fr (fS [51, 52]) ρ ρ') := by
    intro o h5 hk
    rw [ke106_2, if_pos (by omega), Int.toNat_natCast, hI.more a ha, if_neg (by rw [wi (by omega) (by omega)]; omega)]
    by_cases hp : (mj_w (w.tdiv (mj_w (I.more a + 2)))).tmod 2 = 1
    · rw [if_pos hp]; exact h4 _ _ h5 (b01_t ⟨hk, hp⟩).symm
    · rw [if_neg hp]; exact h4 _ _ h5 (b01_f (fun q => hp q.2)).symm
  have h1 : ∀ o : Option mj_V, ¬ (I.kind a = 5 ∧ ¬ w < 30) → mwI (kd (d + 3) 106 1 [some (v_r 33 0), some (v_i (a : Int)), some (v_i w), o] [] ρ) (fun x ρ' => x = b01 (pThere I a w) ∧ fr (fS [51, 52]) ρ ρ') := by
    intro o h5
    rw [ke106_1, if_pos hb, if_pos hb, Int.toNat_natCast, hI.kind a ha]
    by_cases hk1 : I.kind a = 1
    · rw [if_pos hk1]; exact h2 _ h5 (Or.inl hk1)
    · rw [if_neg hk1]
      by_cases hk5 : I.kind a = 5
      · rw [if_pos hk5]; exact h2 _ h5 (Or.inr hk5)
      · rw [if_neg hk5]; exact h4 _ _ h5 (b01_f (fun q => q.1.elim hk1 hk5)).symm
  rw [ke106_0, if_pos hb, Int.toNat_natCast, hI.kind a ha]
  by_cases hk5 : I.kind a = 5
  · rw [if_pos hk5]
    by_cases hw : w < 30
    · rw [if_pos hw]; exact h1 _ (fun q => q.2 hw)
    · rw [if_neg hw]; exact mwI_ret ⟨(b01_t (Or.inl ⟨hk5, hw⟩)).symm, fr_rf⟩
  · rw [if_neg hk5]; exact h1 _ (fun q => hk5 q.1)
theorem kc108 (d a b : Nat) (ρ : mj_M) (I : pI) (t : Nat) (hI : iR ρ I t) (hO : iOK I) (ha : a < I.m) (hb : b < I.m) : kc (d + 1) 108 [v_r 33 0, v_i (a : Int), v_i (b : Int)] ρ = some (some (v_i (b01 (pKey I a < pKey I b))), ρ) := by
  have := hO.m
  have ca := hO.comes a ha
  have ba : 0 ≤ (a : Int) ∧ (a : Int) < 17 := by omega
  have bb : 0 ≤ (b : Int) ∧ (b : Int) < 17 := by omega
  have cb := hO.comes b hb
  have h12 : ∀ (o : Option mj_V) (r : Int), r = pRank I b → kd d 108 12 [some (v_r 33 0), some (v_i (a : Int)), some (v_i (b : Int)), some (v_i (pRank I a)), o] [v_i r] ρ = some (some (v_i (b01 (pKey I a < pKey I b))), ρ) := by
    intro o r hr
    rw [ke108_12, if_pos ba, if_pos bb, if_pos ba, if_pos bb, Int.toNat_natCast, Int.toNat_natCast, hI.comes a ha, hI.comes b hb, hr]
    unfold pKey b01
    generalize pRank I a = ra
    generalize pRank I b = rb
    by_cases h1 : ra = rb
    · rw [if_pos h1]
      by_cases h2 : I.comes a < I.comes b
      · rw [if_pos h2, if_pos (by omega)]
      · rw [if_neg h2]
        by_cases h3 : I.comes a = I.comes b
        · rw [if_pos h3]
          by_cases h4 : (a : Int) < (b : Int)
          · rw [if_pos h4, if_pos (by omega)]
          · rw [if_neg h4, if_neg (by omega)]
        · rw [if_neg h3, if_neg (by omega)]
    · rw [if_neg h1]
      by_cases h2 : ra < rb
      · rw [if_pos h2, if_pos (by omega)]
      · rw [if_neg h2, if_neg (by omega)]
  have h6 : ∀ (o o' : Option mj_V) (r : Int), r = pRank I a → kd d 108 6 [some (v_r 33 0), some (v_i (a : Int)), some (v_i (b : Int)), o, o'] [v_i r] ρ = some (some (v_i (b01 (pKey I a < pKey I b))), ρ) := by
    intro o o' r hr
    rw [ke108_6, if_pos bb, if_pos bb, if_pos bb, Int.toNat_natCast, hI.who, hI.kind b hb, hI.base b hb, hr]
    by_cases h1 : I.who = 1
    · rw [if_pos h1]
      by_cases h2 : I.kind b = 4
      · rw [if_pos h2]; exact h12 _ _ (by unfold pRank; rw [if_pos h1, if_pos h2])
      · rw [if_neg h2]; exact h12 _ _ (by unfold pRank; rw [if_pos h1, if_neg h2])
    rw [if_neg h1]
    by_cases h2 : I.who = 2
    · rw [if_pos h2]; exact h12 _ _ (by unfold pRank; rw [if_neg h1, if_pos h2])
    rw [if_neg h2]
    by_cases h3 : I.who = 3
    · rw [if_pos h3]
      by_cases h4 : I.kind b = 3
      · rw [if_pos h4]; exact h12 _ _ (by unfold pRank; rw [if_neg h1, if_neg h2, if_pos h3, if_pos h4])
      · rw [if_neg h4]; exact h12 _ _ (by unfold pRank; rw [if_neg h1, if_neg h2, if_pos h3, if_neg h4])
    · rw [if_neg h3]; exact h12 _ _ (by unfold pRank; rw [if_neg h1, if_neg h2, if_neg h3])
  rw [ke108_0, if_pos ba, if_pos ba, if_pos ba, Int.toNat_natCast, hI.who, hI.kind a ha, hI.base a ha]
  by_cases h1 : I.who = 1
  · rw [if_pos h1]
    by_cases h2 : I.kind a = 4
    · rw [if_pos h2]; exact h6 _ _ _ (by unfold pRank; rw [if_pos h1, if_pos h2])
    · rw [if_neg h2]; exact h6 _ _ _ (by unfold pRank; rw [if_pos h1, if_neg h2])
  rw [if_neg h1]
  by_cases h2 : I.who = 2
  · rw [if_pos h2]; exact h6 _ _ _ (by unfold pRank; rw [if_neg h1, if_pos h2])
  rw [if_neg h2]
  by_cases h3 : I.who = 3
  · rw [if_pos h3]
    by_cases h4 : I.kind a = 3
    · rw [if_pos h4]; exact h6 _ _ _ (by unfold pRank; rw [if_neg h1, if_neg h2, if_pos h3, if_pos h4])
    · rw [if_neg h4]; exact h6 _ _ _ (by unfold pRank; rw [if_neg h1, if_neg h2, if_pos h3, if_neg h4])
  · rw [if_neg h3]; exact h6 _ _ _ (by unfold pRank; rw [if_neg h1, if_neg h2, if_neg h3])
