/-! the class: questions -/
def iC (μ : mj_M) (i : Nat) (I : pI) (t : Nat) : Prop := (μ 1 i 0 = (I.n : Int)) ∧ (μ 1 i 4 = (I.m : Int)) ∧ (μ 1 i 6 = I.who) ∧ (μ 1 i 7 = I.called) ∧ (μ 1 i 8 = I.stop) ∧ (μ 1 i 10 = I.quick) ∧ (μ 1 i 11 = I.right) ∧ row μ 2 i I.does I.n ∧ row μ 3 i I.slow I.n ∧ row μ 4 i I.pause I.n ∧ row μ 5 i I.comes I.m ∧ (∀ a, a < I.m → μ 7 a 0 = I.kind a ∧ μ 7 a 1 = I.letter a ∧ μ 7 a 2 = I.base a ∧ μ 7 a 3 = I.more a) ∧ txtC μ t I.g I.e
theorem iC.n {μ : mj_M} {i t : Nat} {I : pI} (h : iC μ i I t) : μ 1 i 0 = (I.n : Int) := h.1
theorem iC.m {μ : mj_M} {i t : Nat} {I : pI} (h : iC μ i I t) : μ 1 i 4 = (I.m : Int) := h.2.1
theorem iC.who {μ : mj_M} {i t : Nat} {I : pI} (h : iC μ i I t) : μ 1 i 6 = I.who := h.2.2.1
theorem iC.called {μ : mj_M} {i t : Nat} {I : pI} (h : iC μ i I t) : μ 1 i 7 = I.called := h.2.2.2.1
theorem iC.stop {μ : mj_M} {i t : Nat} {I : pI} (h : iC μ i I t) : μ 1 i 8 = I.stop := h.2.2.2.2.1
theorem iC.quick {μ : mj_M} {i t : Nat} {I : pI} (h : iC μ i I t) : μ 1 i 10 = I.quick := h.2.2.2.2.2.1
theorem iC.right {μ : mj_M} {i t : Nat} {I : pI} (h : iC μ i I t) : μ 1 i 11 = I.right := h.2.2.2.2.2.2.1
theorem iC.does {μ : mj_M} {i t : Nat} {I : pI} (h : iC μ i I t) : row μ 2 i I.does I.n := h.2.2.2.2.2.2.2.1
theorem iC.slow {μ : mj_M} {i t : Nat} {I : pI} (h : iC μ i I t) : row μ 3 i I.slow I.n := h.2.2.2.2.2.2.2.2.1
theorem iC.pause {μ : mj_M} {i t : Nat} {I : pI} (h : iC μ i I t) : row μ 4 i I.pause I.n := h.2.2.2.2.2.2.2.2.2.1
theorem iC.comes {μ : mj_M} {i t : Nat} {I : pI} (h : iC μ i I t) : row μ 5 i I.comes I.m := h.2.2.2.2.2.2.2.2.2.2.1
theorem iC.asker {μ : mj_M} {i t : Nat} {I : pI} (h : iC μ i I t) : ∀ a, a < I.m → μ 7 a 0 = I.kind a ∧ μ 7 a 1 = I.letter a ∧ μ 7 a 2 = I.base a ∧ μ 7 a 3 = I.more a := h.2.2.2.2.2.2.2.2.2.2.2.1
theorem iC.txt {μ : mj_M} {i t : Nat} {I : pI} (h : iC μ i I t) : txtC μ t I.g I.e := h.2.2.2.2.2.2.2.2.2.2.2.2
theorem iC_fr {l : List Nat} {μ μ' : mj_M} {I : pI} {i t : Nat} (h : iC μ i I t) (hf : fr (fS l) μ μ') (q : ∀ s, s ∈ [1, 2, 3, 4, 5, 7, 10, 11] → l.contains s = false) : iC μ' i I t := by
  have r : ∀ s, s ∈ [1, 2, 3, 4, 5, 7, 10, 11] → ∀ i k, μ' s i k = μ s i k := fun s hs i k => fS_rd hf (q s hs) i k
  refine ⟨?_, ?_, ?_, ?_, ?_, ?_, ?_, ?_, ?_, ?_, ?_, ?_, ?_⟩
  · rw [r 1 (by decide)]; exact h.n
  · rw [r 1 (by decide)]; exact h.m
  · rw [r 1 (by decide)]; exact h.who
  · rw [r 1 (by decide)]; exact h.called
  · rw [r 1 (by decide)]; exact h.stop
  · rw [r 1 (by decide)]; exact h.quick
  · rw [r 1 (by decide)]; exact h.right
  · exact row_fr hf h.does (q 2 (by decide))
  · exact row_fr hf h.slow (q 3 (by decide))
  · exact row_fr hf h.pause (q 4 (by decide))
  · exact row_fr hf h.comes (q 5 (by decide))
  · intro a ha; rw [r 7 (by decide), r 7 (by decide), r 7 (by decide), r 7 (by decide)]; exact h.asker a ha
  · exact ⟨fun p hp => by rw [r 11 (by decide)]; exact h.txt.1 p hp, fun j hj => by rw [r 10 (by decide)]; exact h.txt.2 j hj⟩
theorem kc167 (d a i : Nat) (μ : mj_M) (I : pI) (t : Nat) (hI : iC μ i I t) (ha : a < I.m) : kc (d + 1) 167 [v_r 7 a] μ = some (some (v_i (pNeeds I a)), μ) := by
  obtain ⟨h0, h1, -, -⟩ := hI.asker a ha
  rw [ke167_0, h0, h1]
  unfold pNeeds
  split <;> rfl
theorem kc172 (d a : Nat) (μ : mj_M) (I : pI) (t : Nat) (hI : iC μ 2 I t) (ha : a < I.m) : kc (d + 2) 172 [v_r 21 0, v_r 7 a] μ = some (some (v_i (pRank I a)), μ) := by
  obtain ⟨h0, -, h2, -⟩ := hI.asker a ha
  rw [ke172_0, hI.who, ke165_0, ke166_0, h0, h2]
  unfold pRank
  by_cases q1 : I.who = 1
  · rw [if_pos q1, if_pos q1]
    by_cases q2 : I.kind a = 4
    · rw [if_pos q2, if_pos q2, rI_some, if_neg (by decide)]
    · rw [if_neg q2, if_neg q2, rI_some, if_pos rfl]
  rw [if_neg q1, if_neg q1]
  by_cases q2 : I.who = 2
  · rw [if_pos q2, if_pos q2]
  rw [if_neg q2, if_neg q2]
  by_cases q3 : I.who = 3
  · rw [if_pos q3, if_pos q3]
    by_cases q4 : I.kind a = 3
    · rw [if_pos q4, if_pos q4, rI_some, if_neg (by decide)]
    · rw [if_neg q4, if_neg q4, rI_some, if_pos rfl]
  rw [if_neg q3, if_neg q3]
theorem kc168 (d a i : Nat) (w : Int) (μ : mj_M) (I : pI) (t : Nat) (hI : iC μ i I t) (hO : iOK I) (ha : a < I.m) (hw : 0 ≤ w ∧ w ≤ 1000) :
    kc (d + 2) 168 [v_r 7 a, v_i w, v_i (pW I.g I.e 1 (pAskNm I a 0 w 0))] μ = some (some (v_i (b01 (pThere I a w))), μ) := by
  obtain ⟨h0, -, -, h3⟩ := hI.asker a ha
  have hm := hO.more a ha
  have hD : mj_w (I.more a + 2) = I.more a + 2 := wi (by omega) (by omega)
  have hmax : (if 2 < mj_w (I.more a + 2) then mj_w (I.more a + 2) else 2) = mj_w (I.more a + 2) := by
    rw [hD]; split
    · rfl
    · omega
  have hq : (mj_w (w.tdiv (mj_w (I.more a + 2)))).tmod 2 = 0 ∨ (mj_w (w.tdiv (mj_w (I.more a + 2)))).tmod 2 = 1 := by
    rw [hD, Int.tdiv_eq_ediv_of_nonneg hw.1]
    have h1 : 0 ≤ w / (I.more a + 2) := Int.ediv_nonneg hw.1 (by omega)
    have h2 : w / (I.more a + 2) ≤ w := Int.ediv_le_self _ hw.1
    rw [wi (by omega) (by omega), Int.tmod_eq_emod_of_nonneg h1]
    omega
  have h5 : ∀ (o o' : Option mj_V), ¬ (I.kind a = 5 ∧ ¬ w < 30) → ¬ pAsk I.g I.e 1 (pAskNm I a 0 w 0) < w → (I.kind a = 1 ∨ I.kind a = 5) → kd (d + 1) 168 5 [some (v_r 7 a), some (v_i w), o, o'] [v_i 1] μ = some (some (v_i (b01 (pThere I a w))), μ) := by
    intro o o' q1 q2 q3
    rw [ke168_5, if_neg (by decide), h3, hmax, if_neg (by rw [hD]; omega)]
    rcases hq with q | q
    · rw [if_pos q, b01_t (Or.inr ⟨fun p => absurd (q.symm.trans p.2) (by decide), q2⟩)]
    · rw [if_neg (by rw [q]; decide), b01_f (fun p => p.elim q1 (fun p => p.1 ⟨q3, q⟩))]
  have h1 : ∀ (o : Option mj_V), ¬ (I.kind a = 5 ∧ ¬ w < 30) → kd (d + 1) 168 1 [some (v_r 7 a), some (v_i w), some (v_i (pW I.g I.e 1 (pAskNm I a 0 w 0))), o] [] μ = some (some (v_i (b01 (pThere I a w))), μ) := by
    intro o q1
    rw [ke168_1, kc45, rI_some]
    have hA : clampI (pW I.g I.e 1 (pAskNm I a 0 w 0)) 0 999 = pAsk I.g I.e 1 (pAskNm I a 0 w 0) := by unfold pAsk; rw [if_neg (by decide)]
    rw [hA, h0]
    by_cases q2 : pAsk I.g I.e 1 (pAskNm I a 0 w 0) < w
    · rw [if_pos q2, b01_f (fun p => p.elim q1 (fun p => p.2 q2))]
    rw [if_neg q2]
    by_cases q3 : I.kind a = 1
    · rw [if_pos q3]; exact h5 _ _ q1 q2 (Or.inl q3)
    rw [if_neg q3]
    by_cases q4 : I.kind a = 5
    · rw [if_pos q4]; exact h5 _ _ q1 q2 (Or.inr q4)
    rw [if_neg q4, ke168_5, if_pos rfl, b01_t (Or.inr ⟨fun p => p.1.elim q3 q4, q2⟩)]
  rw [ke168_0, h0]
  by_cases q1 : I.kind a = 5
  · rw [if_pos q1]
    by_cases q2 : w < 30
    · rw [if_pos q2]; exact h1 _ (fun p => p.2 q2)
    · rw [if_neg q2, b01_t (Or.inl ⟨q1, q2⟩)]
  · rw [if_neg q1]; exact h1 _ (fun p => q1 p.1)
theorem kc169 (d a c i : Nat) (w : Int) (μ : mj_M) (I : pI) (t : Nat) (hI : iC μ i I t) (ha : a < I.m) :
    kc (d + 2) 169 [v_r 7 a, v_i (pW I.g I.e 0 (pAskNm I a (I.slow c) w 0)), v_i I.quick] μ = some (some (v_i (pTakes I a c w)), μ) := by
  obtain ⟨h0, -, -, -⟩ := hI.asker a ha
  have hA : clampI (pW I.g I.e 0 (pAskNm I a (I.slow c) w 0)) 1 60 = pAsk I.g I.e 0 (pAskNm I a (I.slow c) w 0) := by unfold pAsk; rw [if_pos rfl]
  rw [ke169_0, kc45, rI_some, hA, h0]
  unfold pTakes
  by_cases q1 : I.kind a = 3
  · rw [if_pos q1, if_pos q1]
    by_cases q2 : I.quick = 0
    · rw [if_pos q2, if_pos q2, kc45, rI_some]
    · rw [if_neg q2, if_neg q2]
  · rw [if_neg q1, if_neg q1]
theorem kc193 (d c i : Nat) (tm : Int) (μ : mj_M) (I : pI) (t : Nat) (hI : iC μ i I t) (hO : iOK I) (hc : c < I.n) : kc (d + 2) 193 [v_r 1 i, v_i (c : Int), v_i tm] μ = some (some (v_i (b01 (pPausing I c tm))), μ) := by
  have hn := hO.n
  have hp := hO.pause c hc
  have hb : 0 ≤ (c : Int) ∧ (c : Int) < 4 := by omega
  rw [ke193_0, if_pos hb, Int.toNat_natCast, hI.pause c hc]
  by_cases q1 : I.pause c < 0
  · rw [if_pos q1, b01_f (fun p => p.1 (by omega))]
  rw [if_neg q1, if_pos hb, if_pos hb, wi (z := I.pause c + 10) (by omega) (by omega), wi (by omega) (by omega), kc44, rI_some]
  by_cases q2 : I.pause c ≤ tm ∧ tm ≤ I.pause c + 10 - 1
  · rw [b01_t q2, if_neg (by decide), b01_t ⟨by omega, q2.1, by omega⟩]
  · rw [b01_f q2, if_pos rfl, b01_f (fun p => q2 ⟨p.2.1, by have := p.2.2; omega⟩)]
