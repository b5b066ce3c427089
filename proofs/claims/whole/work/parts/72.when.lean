/-! when: one more -/
def nwI (I : pI) (L B y : Int) : pI := ((I.1.1, I.1.2 + 1), (fun r a => if a = I.m then (match r with
  | 4 => y
  | 5 => 0
  | 6 => L
  | 7 => B
  | 8 => 9
  | _ => I.2.1 r a) else I.2.1 r a), I.2.2)
theorem nwI_ne {I : pI} {L B y : Int} {r a : Nat} (h : a ≠ I.m) : (nwI I L B y).2.1 r a = I.2.1 r a := if_neg h
theorem nwI_0 {I : pI} {L B y : Int} {a : Nat} : (nwI I L B y).2.1 0 a = I.2.1 0 a := by
  show (if a = I.m then I.2.1 0 a else I.2.1 0 a) = _
  split <;> rfl
theorem nwI_1 {I : pI} {L B y : Int} {a : Nat} : (nwI I L B y).2.1 1 a = I.2.1 1 a := by
  show (if a = I.m then I.2.1 1 a else I.2.1 1 a) = _
  split <;> rfl
theorem nwI_2 {I : pI} {L B y : Int} {a : Nat} : (nwI I L B y).2.1 2 a = I.2.1 2 a := by
  show (if a = I.m then I.2.1 2 a else I.2.1 2 a) = _
  split <;> rfl
theorem nwI_3 {I : pI} {L B y : Int} {a : Nat} : (nwI I L B y).2.1 3 a = I.2.1 3 a := by
  show (if a = I.m then I.2.1 3 a else I.2.1 3 a) = _
  split <;> rfl
theorem nwI_9 {I : pI} {L B y : Int} : (nwI I L B y).g = I.g := by
  funext a
  show (if a = I.m then I.2.1 9 a else I.2.1 9 a) = _
  split <;> rfl
theorem nwI_4 {I : pI} {L B y : Int} : (nwI I L B y).2.1 4 I.m = y := if_pos rfl
theorem nwI_5 {I : pI} {L B y : Int} : (nwI I L B y).2.1 5 I.m = 0 := if_pos rfl
theorem nwI_6 {I : pI} {L B y : Int} : (nwI I L B y).2.1 6 I.m = L := if_pos rfl
theorem nwI_7 {I : pI} {L B y : Int} : (nwI I L B y).2.1 7 I.m = B := if_pos rfl
theorem nwI_8 {I : pI} {L B y : Int} : (nwI I L B y).2.1 8 I.m = 9 := if_pos rfl
theorem lt_sx {a m : Nat} (h : a < m + 1) : a < m ∨ a = m := by omega
theorem iOK_nw {I : pI} {L B x y : Int} (h : iOK I) (hm : I.m < 16) (hL : 0 ≤ L ∧ L ≤ 3) (hB : 0 ≤ B ∧ B ≤ 99) (hx : 0 ≤ x ∧ x ≤ 119) : iOK (uI (nwI I L B y) 4 I.m x) := by
  have hr : ∀ r a, a ≠ I.m → (uI (nwI I L B y) 4 I.m x).2.1 r a = I.2.1 r a := fun r a q => (uI_k q).trans (nwI_ne q)
  refine ⟨h.n, hm, ?_, ?_, ?_, ?_, ?_, ?_, ?_⟩
  · intro c hc
    rw [show (uI (nwI I L B y) 4 I.m x).does c = I.does c from (uI_r (by decide)).trans nwI_1]; exact h.does c hc
  · intro c hc
    rw [show (uI (nwI I L B y) 4 I.m x).pause c = I.pause c from (uI_r (by decide)).trans nwI_3]; exact h.pause c hc
  · intro a ha
    rcases (show a < I.m ∨ a = I.m from lt_sx ha) with q | q
    · rw [show (uI (nwI I L B y) 4 I.m x).comes a = I.comes a from hr 4 a (Nat.ne_of_lt q)]; exact h.comes a q
    · rw [q, show (uI (nwI I L B y) 4 I.m x).comes I.m = x from uI_e]; exact hx
  · intro a ha
    rcases (show a < I.m ∨ a = I.m from lt_sx ha) with q | q
    · rw [show (uI (nwI I L B y) 4 I.m x).letter a = I.letter a from hr 6 a (Nat.ne_of_lt q)]; exact h.letter a q
    · rw [q, show (uI (nwI I L B y) 4 I.m x).letter I.m = L from (uI_r (by decide)).trans nwI_6]; exact hL
  · intro a ha
    rcases (show a < I.m ∨ a = I.m from lt_sx ha) with q | q
    · rw [show (uI (nwI I L B y) 4 I.m x).base a = I.base a from hr 7 a (Nat.ne_of_lt q)]; exact h.base a q
    · rw [q, show (uI (nwI I L B y) 4 I.m x).base I.m = B from (uI_r (by decide)).trans nwI_7]; exact hB
  · intro a ha
    rcases (show a < I.m ∨ a = I.m from lt_sx ha) with q | q
    · rw [show (uI (nwI I L B y) 4 I.m x).more a = I.more a from hr 8 a (Nat.ne_of_lt q)]; exact h.more a q
    · rw [q, show (uI (nwI I L B y) 4 I.m x).more I.m = 9 from (uI_r (by decide)).trans nwI_8]; decide
  · rw [uI_g (by decide), nwI_9]; exact h.txt
theorem iC_nw {μ μ' : mj_M} {I : pI} {t : Nat} {L B y : Int} (h : iC μ 2 I t) (hf : ∀ s i k, [7].contains s = false → ¬ (s = 1 ∧ i = 2 ∧ k = 4) → μ' s i k = μ s i k) (h4 : μ' 1 2 4 = ((I.m + 1 : Nat) : Int)) (h7 : ∀ a k, a ≠ I.m → μ' 7 a k = μ 7 a k) (hn : μ' 7 I.m 0 = 0 ∧ μ' 7 I.m 1 = L ∧ μ' 7 I.m 2 = B ∧ μ' 7 I.m 3 = 9) (hy : μ 5 2 I.m = y) : iC μ' 2 (nwI I L B y) t := by
  refine ⟨?_, h4, ?_, ?_, ?_, ?_, ?_, ?_, ?_, ?_, ?_, ?_, ?_⟩
  · rw [hf 1 2 0 rfl (by decide)]; exact h.n
  · rw [hf 1 2 6 rfl (by decide)]; exact h.who.trans nwI_0.symm
  · rw [hf 1 2 7 rfl (by decide)]; exact h.called.trans nwI_0.symm
  · rw [hf 1 2 8 rfl (by decide)]; exact h.stop.trans nwI_0.symm
  · rw [hf 1 2 10 rfl (by decide)]; exact h.quick.trans nwI_0.symm
  · rw [hf 1 2 11 rfl (by decide)]; exact h.right.trans nwI_0.symm
  · intro c hc; rw [hf 2 2 c rfl (by omega)]; exact (h.does c hc).trans nwI_1.symm
  · intro c hc; rw [hf 3 2 c rfl (by omega)]; exact (h.slow c hc).trans nwI_2.symm
  · intro c hc; rw [hf 4 2 c rfl (by omega)]; exact (h.pause c hc).trans nwI_3.symm
  · intro a ha
    rw [hf 5 2 a rfl (by omega)]
    rcases (show a < I.m ∨ a = I.m from lt_sx ha) with q | q
    · exact (h.comes a q).trans (nwI_ne (Nat.ne_of_lt q)).symm
    · rw [q]; exact hy.trans nwI_4.symm
  · intro a ha
    rcases (show a < I.m ∨ a = I.m from lt_sx ha) with q | q
    · have e := Nat.ne_of_lt q
      obtain ⟨p0, p1, p2, p3⟩ := h.asker a q
      rw [h7 a 0 e, h7 a 1 e, h7 a 2 e, h7 a 3 e]
      exact ⟨p0.trans (nwI_ne e).symm, p1.trans (nwI_ne e).symm, p2.trans (nwI_ne e).symm, p3.trans (nwI_ne e).symm⟩
    · rw [q]
      exact ⟨hn.1.trans nwI_5.symm, hn.2.1.trans nwI_6.symm, hn.2.2.1.trans nwI_7.symm, hn.2.2.2.trans nwI_8.symm⟩
  · rw [nwI_9]
    exact ⟨fun p hp => by rw [hf 11 t p rfl (by omega)]; exact h.txt.1 p hp, fun j hj => by rw [hf 10 t j rfl (by omega)]; exact h.txt.2 j hj⟩
theorem iR_nw {ρ ρ' : mj_M} {I : pI} {t : Nat} {L B y : Int} (h : iR ρ I t) (hf : ∀ s i k, [35, 36, 37, 38, 39].contains s = false → ¬ (s = 33 ∧ k = 5) → ρ' s i k = ρ s i k) (h5 : ρ' 33 0 5 = ((I.m + 1 : Nat) : Int)) (h7 : ∀ s k, k ≠ I.m → s ≠ 33 → ρ' s 0 k = ρ s 0 k) (hn : ρ' 35 0 I.m = 0 ∧ ρ' 36 0 I.m = L ∧ ρ' 37 0 I.m = B ∧ ρ' 38 0 I.m = 9 ∧ ρ' 39 0 I.m = y) : iR ρ' (nwI I L B y) t := by
  obtain ⟨n0, n1, n2, n3, n4⟩ := hn
  refine ⟨?_, h5, ?_, ?_, ?_, ?_, ?_, ?_, ?_, ?_, ?_, ?_, ?_, ?_, ?_, ?_, h.law, ?_⟩
  · rw [hf 33 0 0 rfl (by decide)]; exact h.n
  · rw [hf 33 0 2 rfl (by decide)]; exact h.who.trans nwI_0.symm
  · rw [hf 33 0 3 rfl (by decide)]; exact h.called.trans nwI_0.symm
  · rw [hf 33 0 4 rfl (by decide)]; exact h.stop.trans nwI_0.symm
  · rw [hf 33 0 41 rfl (by decide)]; exact h.quick.trans nwI_0.symm
  · rw [hf 33 0 50 rfl (by decide)]; exact h.right.trans nwI_0.symm
  · intro c hc; rw [hf 34 0 _ rfl (by omega)]; exact (h.does c hc).trans nwI_1.symm
  · intro c hc; rw [hf 34 0 _ rfl (by omega)]; exact (h.slow c hc).trans nwI_2.symm
  · intro c hc; rw [hf 34 0 _ rfl (by omega)]; exact (h.pause c hc).trans nwI_3.symm
  · intro a ha
    rcases (show a < I.m ∨ a = I.m from lt_sx ha) with q | q
    · rw [h7 35 a (Nat.ne_of_lt q) (by decide)]; exact (h.kind a q).trans (nwI_ne (Nat.ne_of_lt q)).symm
    · rw [q]; exact n0.trans nwI_5.symm
  · intro a ha
    rcases (show a < I.m ∨ a = I.m from lt_sx ha) with q | q
    · rw [h7 36 a (Nat.ne_of_lt q) (by decide)]; exact (h.letter a q).trans (nwI_ne (Nat.ne_of_lt q)).symm
    · rw [q]; exact n1.trans nwI_6.symm
  · intro a ha
    rcases (show a < I.m ∨ a = I.m from lt_sx ha) with q | q
    · rw [h7 37 a (Nat.ne_of_lt q) (by decide)]; exact (h.base a q).trans (nwI_ne (Nat.ne_of_lt q)).symm
    · rw [q]; exact n2.trans nwI_7.symm
  · intro a ha
    rcases (show a < I.m ∨ a = I.m from lt_sx ha) with q | q
    · rw [h7 38 a (Nat.ne_of_lt q) (by decide)]; exact (h.more a q).trans (nwI_ne (Nat.ne_of_lt q)).symm
    · rw [q]; exact n3.trans nwI_8.symm
  · intro a ha
    rcases (show a < I.m ∨ a = I.m from lt_sx ha) with q | q
    · rw [h7 39 a (Nat.ne_of_lt q) (by decide)]; exact (h.comes a q).trans (nwI_ne (Nat.ne_of_lt q)).symm
    · rw [q]; exact n4.trans nwI_4.symm
  · rw [hf 33 0 16 rfl (by decide)]; exact h.rule
  · rw [nwI_9]
    exact ⟨fun p hp => by rw [hf 42 0 _ rfl (by omega)]; exact h.txt.1 p hp, fun j hj => by rw [hf 41 0 _ rfl (by omega)]; exact h.txt.2 j hj⟩
theorem nwI_y {I : pI} {L B x y : Int} : uI (nwI I L B x) 4 I.m y = nwI I L B y := by
  refine congrArg (fun Z => (((I.1.1, I.1.2 + 1), Z, I.2.2) : pI)) ?_
  funext r a
  show (if r = 4 ∧ a = I.m then y else (nwI I L B x).2.1 r a) = (nwI I L B y).2.1 r a
  by_cases q : a = I.m
  · subst q
    by_cases w : r = 4
    · rw [if_pos ⟨w, rfl⟩, w, nwI_4]
    · rw [if_neg (fun z => w z.1)]
      show (if I.m = I.m then _ else _) = (if I.m = I.m then _ else _)
      rw [if_pos rfl, if_pos rfl]
      match r, w with
      | 0, _ => rfl
      | 1, _ => rfl
      | 2, _ => rfl
      | 3, _ => rfl
      | 4, w => exact absurd rfl w
      | 5, _ => rfl
      | 6, _ => rfl
      | 7, _ => rfl
      | 8, _ => rfl
      | r + 9, _ => rfl
  · rw [if_neg (fun z => q z.2), nwI_ne q, nwI_ne q]
theorem when_n (L B : Int) (hL : 0 ≤ L ∧ L ≤ 3) (hB : 1 ≤ B ∧ B ≤ 99) : mj_w (mj_w (mj_w (1000 * L) + mj_w (10 * B)) + 9) = 1000 * L + 10 * B + 9 ∧ mj_w ((1000 * L + 10 * B + 9).tdiv 1000) = L ∧ (mj_w ((1000 * L + 10 * B + 9).tdiv 10)).tmod 100 = B ∧ (1000 * L + 10 * B + 9).tmod 10 = 9 := by
  refine ⟨?_, ?_, ?_, ?_⟩
  · rw [wi (z := 1000 * L) (by omega) (by omega), wi (z := 10 * B) (by omega) (by omega), wi (z := 1000 * L + 10 * B) (by omega) (by omega), wi (by omega) (by omega)]
  · rw [Int.tdiv_eq_ediv_of_nonneg (by omega), wi (by omega) (by omega)]; omega
  · rw [Int.tdiv_eq_ediv_of_nonneg (by omega), wi (by omega) (by omega), Int.tmod_eq_emod_of_nonneg (by omega)]; omega
  · rw [Int.tmod_eq_emod_of_nonneg (by omega)]; omega
theorem wk5 (m : Nat) (h : m ≤ 16) : mj_w (((m + 1 : Nat) : Int) - 1) = (m : Int) := by
  rw [wi (by omega) (by omega)]; omega
theorem Inv_when {μ ρ μ1 ρ1 : mj_M} {M : Nat} (h : Inv μ ρ) (hM : μ 1 0 4 = (M : Int)) (hμ7 : ∀ s i k, s ≠ 7 → μ1 s i k = μ s i k) (hμi : ∀ s i k, i ≠ M → μ1 s i k = μ s i k) (hμf : fr hC μ μ1) (hρs : ∀ s i k, [35, 36, 37, 38, 39].contains s = false → ρ1 s i k = ρ s i k) (hρk : ∀ s i k, k ≠ M → ρ1 s i k = ρ s i k) (hρf : fr hR ρ ρ1) : Inv μ1 ρ1 := by
  obtain ⟨n, m, t', tc, z, hA⟩ := h
  have hm : μ 1 0 4 = (m : Int) := hA.1.1.2.2.2.2.1
  have em : m = M := Int.ofNat.inj (hm.symm.trans hM)
  have hA0 := hA
  obtain ⟨⟨⟨a1, a2, a3, a4, a5, a6⟩, hb, hc4, hcs, has⟩, -⟩ := hA
  refine Inv_hall (n' := n) (m' := m) hA0 hμf hρf ?_ (Nat.le_refl _)
  have g : ∀ s i k, s ≠ 7 → mC μ1 s i k = mC μ s i k := fun s i k q => by unfold mC; rw [hμ7 s i k q]
  have g2 : ∀ i k, i ≠ M → mC μ1 7 i k = mC μ 7 i k := fun i k q => by unfold mC; rw [hμi 7 i k q]
  have r : ∀ s i k, [35, 36, 37, 38, 39].contains s = false → mR ρ1 s i k = mR ρ s i k := fun s i k q => by unfold mR; rw [hρs s i k q]
  have r2 : ∀ s i k, k ≠ M → mR ρ1 s i k = mR ρ s i k := fun s i k q => by unfold mR; rw [hρk s i k q]
  refine ⟨⟨a1, a2, ?_, ?_, ?_, ?_⟩, ?_, ?_, fun c hc => ?_, fun a ha => ?_⟩
  · rw [g 1 0 0 (by decide)]; exact a3
  · rw [r 33 0 0 rfl]; exact a4
  · rw [g 1 0 4 (by decide)]; exact a5
  · rw [r 33 0 5 rfl]; exact a6
  · rw [g 1 0 6 (by decide), g 1 0 7 (by decide), g 1 0 8 (by decide), r 33 0 2 rfl, r 33 0 3 rfl, r 33 0 4 rfl]; exact hb
  · rw [g 1 0 10 (by decide), g 1 0 11 (by decide), r 33 0 41 rfl, r 33 0 50 rfl]; exact hc4
  · rw [g 2 0 c (by decide), g 3 0 c (by decide), g 4 0 c (by decide), r 34 0 _ rfl, r 34 0 _ rfl, r 34 0 _ rfl]; exact hcs c hc
  · have e : a ≠ M := Nat.ne_of_lt (em ▸ ha)
    rw [g2 a 0 e, g2 a 1 e, g2 a 2 e, g2 a 3 e, g 5 0 a (by decide), r2 35 0 a e, r2 36 0 a e, r2 37 0 a e, r2 38 0 a e, r2 39 0 a e]; exact has a ha
theorem iC_7 {μ μ1 : mj_M} {I : pI} {t : Nat} (h : iC μ 0 I t) (hμ7 : ∀ s i k, s ≠ 7 → μ1 s i k = μ s i k) (hμi : ∀ s i k, i ≠ I.m → μ1 s i k = μ s i k) : iC μ1 0 I t := by
  refine ⟨?_, ?_, ?_, ?_, ?_, ?_, ?_, ?_, ?_, ?_, ?_, ?_, ?_⟩
  · rw [hμ7 1 0 0 (by decide)]; exact h.n
  · rw [hμ7 1 0 4 (by decide)]; exact h.m
  · rw [hμ7 1 0 6 (by decide)]; exact h.who
  · rw [hμ7 1 0 7 (by decide)]; exact h.called
  · rw [hμ7 1 0 8 (by decide)]; exact h.stop
  · rw [hμ7 1 0 10 (by decide)]; exact h.quick
  · rw [hμ7 1 0 11 (by decide)]; exact h.right
  · intro k hk; rw [hμ7 2 0 k (by decide)]; exact h.does k hk
  · intro k hk; rw [hμ7 3 0 k (by decide)]; exact h.slow k hk
  · intro k hk; rw [hμ7 4 0 k (by decide)]; exact h.pause k hk
  · intro k hk; rw [hμ7 5 0 k (by decide)]; exact h.comes k hk
  · intro a ha; rw [hμi 7 a _ (Nat.ne_of_lt ha), hμi 7 a _ (Nat.ne_of_lt ha), hμi 7 a _ (Nat.ne_of_lt ha), hμi 7 a _ (Nat.ne_of_lt ha)]; exact h.asker a ha
  · exact ⟨fun p hp => by rw [hμ7 11 t p (by decide)]; exact h.txt.1 p hp, fun j hj => by rw [hμ7 10 t j (by decide)]; exact h.txt.2 j hj⟩
theorem no5 {s : Nat} (h : [35, 36, 37, 38, 39].contains s = false) : s ≠ 35 ∧ s ≠ 36 ∧ s ≠ 37 ∧ s ≠ 38 ∧ s ≠ 39 := by
  simp at h; omega
