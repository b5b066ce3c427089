/-! say -/
theorem pAsk_b {g : Nat → Int} {e : Nat → Nat} {p : Nat} {nm : Nat → Int} (h : p ≠ 0) : 0 ≤ pAsk g e p nm ∧ pAsk g e p nm ≤ 999 := by
  unfold pAsk clampI
  rw [if_neg h]
  split
  · omega
  · split <;> omega
theorem kc64 (d k : Nat) (w s : Int) (μ : mj_M) (I : pI) (t : Nat) (hI : iC μ 0 I t) (hO : iOK I) (ht : μ 1 0 9 = (t : Int)) (h6 : t < 6) (hk : k < I.m) : mwI (kc (d + 3) 64 [v_r 0 0, v_r 7 k, v_i w, v_i s] μ) (fun x μ' => x = pAsk I.g I.e 2 (pAskNm I k 0 w s) ∧ fr (fS [12, 13]) μ μ') := by
  obtain ⟨i0, i1, i2, i3⟩ := hI.asker k hk
  rw [ke64_0, ht, if_pos (by omega), Int.toNat_natCast]
  refine mwI_rI (mwI_mono (kc215 d 2 t k w 0 s I.g I.e μ (by decide) hI.txt hO.txt) (fun z μ1 g => ?_))
  obtain ⟨g1, g2⟩ := g
  rw [i1, i2, i3] at g1
  rw [kc45, rI_some, g1]
  exact mwI_ret ⟨rfl, g2⟩
def pSay (I : pI) (s : Int) : Nat → Int
  | 0 => 0
  | k + 1 => if pLife I 0 k = 2 then pSay I s k + pAsk I.g I.e 2 (pAskNm I k 0 (pWt (pLife I 0) (pLife I 2) I.comes k) s) else pSay I s k
theorem pSay_b (I : pI) (s : Int) : ∀ k : Nat, 0 ≤ pSay I s k ∧ pSay I s k ≤ 999 * (k : Int)
  | 0 => ⟨Int.le_refl _, (by decide : (0 : Int) ≤ 999 * ((0 : Nat) : Int))⟩
  | k + 1 => by
    have := pSay_b I s k
    unfold pSay
    split
    · have h := pAsk_b (g := I.g) (e := I.e) (p := 2) (nm := pAskNm I k 0 (pWt (pLife I 0) (pLife I 2) I.comes k) s) (by decide)
      omega
    · omega
def wS (k : Nat) : Int := 5 * (k : Int)
def hSay (I : pI) (k : Nat) : Int := pSay I (5 * (k : Int)) I.m
theorem wfive (k : Nat) (h : k < 100) : mj_w (5 * (k : Int) + 5) = 5 * ((k + 1 : Nat) : Int) := by
  rw [wi (by omega) (by omega)]; omega
theorem sC_at {μ0 μ : mj_M} (h : fr sC μ0 μ) {s i : Nat} (hs : s ∈ [0, 1, 2, 3, 4, 5, 7, 10, 11, 14, 15, 19, 20]) (hi : i ≠ 2 ∨ s ∈ [0, 7, 10, 11, 14, 15, 19, 20]) (k : Nat) : μ s i k = μ0 s i k := by
  refine h s i k ?_
  unfold sC
  simp only [List.mem_cons, List.not_mem_nil, or_false] at hs hi
  rcases hs with rfl | rfl | rfl | rfl | rfl | rfl | rfl | rfl | rfl | rfl | rfl | rfl | rfl <;> first | rfl | (cases hi with | inl hi => simp [hi] | inr hi => omega)
theorem iC_sC {μ0 μ : mj_M} {I : pI} {t : Nat} (h : iC μ0 0 I t) (f : fr sC μ0 μ) : iC μ 0 I t := by
  have r : ∀ s, s ∈ [1, 2, 3, 4, 5] → ∀ k, μ s 0 k = μ0 s 0 k := fun s hs k => sC_at f (by simp at hs ⊢; omega) (Or.inl (by decide)) k
  have r7 : ∀ i k, μ 7 i k = μ0 7 i k := fun i k => sC_at f (by decide) (Or.inr (by decide)) k
  have r10 : ∀ i k, μ 10 i k = μ0 10 i k := fun i k => sC_at f (by decide) (Or.inr (by decide)) k
  have r11 : ∀ i k, μ 11 i k = μ0 11 i k := fun i k => sC_at f (by decide) (Or.inr (by decide)) k
  refine ⟨?_, ?_, ?_, ?_, ?_, ?_, ?_, ?_, ?_, ?_, ?_, ?_, ?_⟩
  · rw [r 1 (by decide)]; exact h.n
  · rw [r 1 (by decide)]; exact h.m
  · rw [r 1 (by decide)]; exact h.who
  · rw [r 1 (by decide)]; exact h.called
  · rw [r 1 (by decide)]; exact h.stop
  · rw [r 1 (by decide)]; exact h.quick
  · rw [r 1 (by decide)]; exact h.right
  · intro k hk; rw [r 2 (by decide)]; exact h.does k hk
  · intro k hk; rw [r 3 (by decide)]; exact h.slow k hk
  · intro k hk; rw [r 4 (by decide)]; exact h.pause k hk
  · intro k hk; rw [r 5 (by decide)]; exact h.comes k hk
  · intro a ha; rw [r7, r7, r7, r7]; exact h.asker a ha
  · exact ⟨fun p hp => by rw [r11]; exact h.txt.1 p hp, fun j hj => by rw [r10]; exact h.txt.2 j hj⟩
/-- the class, behind a day by the hall as it is -/
def sayC (μ0 μ : mj_M) (I : pI) (t : Nat) : Prop := (iC μ 0 I t ∧ μ 1 0 9 = (t : Int)) ∧ zC μ I (pLife I) ∧ iC μ 2 I t ∧ fr sC μ0 μ
theorem sayC_fr {μ0 μ μ' : mj_M} {I : pI} {t : Nat} (l : List Nat) (hl : l = [12, 13] ∨ l = [31]) (h : sayC μ0 μ I t) (f : fr (fS l) μ μ') : sayC μ0 μ' I t := by
  rcases hl with rfl | rfl
  · exact ⟨⟨iC_fr h.1.1 f (by decide), by rw [fS_rd f rfl]; exact h.1.2⟩, zC_fr h.2.1 f (by decide), iC_fr h.2.2.1 f (by decide), fr_tr h.2.2.2 (sC_S f (by decide))⟩
  · exact ⟨⟨iC_fr h.1.1 f (by decide), by rw [fS_rd f rfl]; exact h.1.2⟩, zC_fr h.2.1 f (by decide), iC_fr h.2.2.1 f (by decide), fr_tr h.2.2.2 (sC_S f (by decide))⟩
theorem kd24 (d : Nat) (w : Int) (μ0 : mj_M) (I : pI) (t : Nat) (hO : iOK I) (h6 : t < 6) :
    ∀ j k (μ1 : mj_M) o3 o4, k + j = 13 → sayC μ0 μ1 I t → lC μ1 (pLe wS (hSay I) k) →
      mwI (kd (d + 5) 24 2 [some (v_r 0 0), some (v_i w), some (v_i (5 * (k : Int))), o3, o4] [] μ1) (fun x μ' => x = pPick w (pLe wS (hSay I) 13) ∧ fr sC μ0 μ') := by
  have hm := hO.m
  intro j
  induction j with
  | zero =>
    intro k μ1 o3 o4 hk h hl
    have e : k = 13 := by omega
    rw [e] at hl
    rw [ke24_2, if_pos (by omega), kc190 (d + 4) w μ1 _ hl, rI_some]
    exact mwI_ret ⟨rfl, h.2.2.2⟩
  | succ j ih =>
    intro k μ1 o3 o4 hk h hl
    rw [ke24_2, if_neg (by omega)]
    have inner : ∀ i a (μ1 : mj_M), a + i = I.m → sayC μ0 μ1 I t → lC μ1 (pLe wS (hSay I) k) → mwI (kd (d + 5) 24 3 [some (v_r 0 0), some (v_i w), some (v_i (5 * (k : Int))), some (v_i (pSay I (5 * (k : Int)) a)), some (v_i (a : Int))] [] μ1) (fun x μ' => x = pPick w (pLe wS (hSay I) 13) ∧ fr sC μ0 μ') := by
      intro i
      induction i with
      | zero =>
        intro a μ1 ha h hl
        have e : a = I.m := by omega
        rw [ke24_3, h.1.1.m, if_neg (by omega), e]
        refine mwI_rV (mwV_mono (kc189 (d + 4) k μ1 wS (hSay I) hl) (fun μ2 q => ?_))
        rw [wfive k (by omega)]
        exact ih (k + 1) μ2 _ _ (by omega) (sayC_fr _ (Or.inr rfl) h q.2) q.1
      | succ i ihi =>
        intro a μ1 ha h hl
        have hb : 0 ≤ (a : Int) ∧ (a : Int) < 16 := by omega
        have ham : a < I.m := by omega
        have hs := pSay_b I (5 * (k : Int)) a
        have hs1 : pSay I (5 * (k : Int)) (a + 1) = if pLife I 0 a = 2 then pSay I (5 * (k : Int)) a + pAsk I.g I.e 2 (pAskNm I a 0 (pWt (pLife I 0) (pLife I 2) I.comes a) (5 * (k : Int))) else pSay I (5 * (k : Int)) a := rfl
        have hz0 : μ1 22 0 a = pLife I 0 a := zC_a h.2.1 ham 0 (by decide)
        have hz2 : μ1 23 0 a = pLife I 2 a := zC_a h.2.1 ham 2 (by decide)
        have hw : pWt (μ1 22 0) (μ1 23 0) (μ1 5 2) a = pWt (pLife I 0) (pLife I 2) I.comes a := by unfold pWt; rw [hz0, hz2, h.2.2.1.comes a ham]
        rw [ke24_3, h.1.1.m, if_pos (by omega), if_pos hb, if_pos hb, Int.toNat_natCast, kc178 (d + 4) a μ1 (by omega), rI_some, hz0, hw]
        by_cases q : pLife I 0 a = 2
        · rw [if_pos q] at hs1
          have hk1 := pAsk_b (g := I.g) (e := I.e) (p := 2) (nm := pAskNm I a 0 (pWt (pLife I 0) (pLife I 2) I.comes a) (5 * (k : Int))) (by decide)
          rw [if_pos q]
          refine mwI_rI (mwI_mono (kc64 (d + 2) a _ _ μ1 I t h.1.1 hO h.1.2 h6 ham) (fun x μ2 g => ?_))
          obtain ⟨rfl, g⟩ := g
          rw [wi (z := pSay I (5 * (k : Int)) a + _) (by omega) (by omega), ← hs1, wk a (m := 16) (by omega) (by omega)]
          exact ihi (a + 1) μ2 (by omega) (sayC_fr _ (Or.inl rfl) h g) (lC_fr hl g rfl)
        · rw [if_neg q] at hs1
          rw [if_neg q, wk a (m := 16) (by omega) (by omega), ← hs1]
          exact ihi (a + 1) μ1 (by omega) h hl
    exact inner I.m 0 μ1 (by omega) h hl
theorem kd134 (d : Nat) (w : Int) (ρ : mj_M) (I : pI) (t : Nat) (hO : iOK I) :
    ∀ j k (ρ1 : mj_M) (best low : Int) o5 o6, k + j = 13 → iR ρ1 I t → zR ρ1 I (pLife I) → fr sR ρ ρ1 → (k = 0 ∨ (best = (pLe wS (hSay I) k).1 ∧ low = (pLe wS (hSay I) k).2)) →
      mwI (kd (d + 5) 134 2 [some (v_r 33 0), some (v_i w), some (v_i best), some (v_i low), some (v_i (5 * (k : Int))), o5, o6] [] ρ1) (fun x ρ' => x = pPick w (pLe wS (hSay I) 13) ∧ fr sR ρ ρ') := by
  have hm := hO.m
  intro j
  induction j with
  | zero =>
    intro k ρ1 best low o5 o6 hk hI hZ hf hl
    have e : k = 13 := by omega
    subst e
    obtain ⟨rfl, rfl⟩ := hl.resolve_left (by decide)
    rw [ke134_2, if_pos (by omega)]
    by_cases hw : w = 0
    · rw [if_pos hw]; exact mwI_ret ⟨by unfold pPick; rw [if_pos hw], hf⟩
    · rw [if_neg hw]; exact mwI_ret ⟨by unfold pPick; rw [if_neg hw], hf⟩
  | succ j ih =>
    intro k ρ1 best low o5 o6 hk hI hZ hf hl
    rw [ke134_2, if_neg (by omega)]
    have inner : ∀ i a (ρ1 : mj_M), a + i = I.m → iR ρ1 I t → zR ρ1 I (pLife I) → fr sR ρ ρ1 → mwI (kd (d + 5) 134 3 [some (v_r 33 0), some (v_i w), some (v_i best), some (v_i low), some (v_i (5 * (k : Int))), some (v_i (pSay I (5 * (k : Int)) a)), some (v_i (a : Int))] [] ρ1) (fun x ρ' => x = pPick w (pLe wS (hSay I) 13) ∧ fr sR ρ ρ') := by
      intro i
      induction i with
      | zero =>
        intro a ρ1 ha hI hZ hf
        have e : a = I.m := by omega
        subst e
        have hH : pSay I (5 * (k : Int)) I.m = hSay I k := rfl
        have hb := pSay_b I (5 * (k : Int)) I.m
        rw [ke134_3, hI.m, if_neg (by omega), hH]
        by_cases k0 : 5 * (k : Int) = 0
        · have : k = 0 := by omega
          subst this
          rw [if_pos k0, ke134_9, if_pos k0, wfive 0 (by decide)]
          refine ih 1 ρ1 _ _ _ _ (by omega) hI hZ hf (Or.inr ?_)
          rw [pLe_1 (by rw [← hH]; omega)]
          exact ⟨rfl, rfl⟩
        · obtain ⟨rfl, rfl⟩ := hl.resolve_left (by omega)
          rw [if_neg k0]
          by_cases q : hSay I k < (pLe wS (hSay I) k).2
          · rw [if_pos q, ke134_9, if_neg k0, if_pos q, wfive k (by omega)]
            exact ih (k + 1) ρ1 _ _ _ _ (by omega) hI hZ hf (Or.inr (by rw [pLe_y q]; exact ⟨rfl, rfl⟩))
          · rw [if_neg q, ke134_9, if_neg k0, if_neg q, wfive k (by omega)]
            exact ih (k + 1) ρ1 _ _ _ _ (by omega) hI hZ hf (Or.inr (by rw [pLe_n q]; exact ⟨rfl, rfl⟩))
      | succ i ihi =>
        intro a ρ1 ha hI hZ hf
        have hb : 0 ≤ (a : Int) ∧ (a : Int) < 17 := by omega
        have ham : a < I.m := by omega
        have hs := pSay_b I (5 * (k : Int)) a
        have hs1 : pSay I (5 * (k : Int)) (a + 1) = if pLife I 0 a = 2 then pSay I (5 * (k : Int)) a + pAsk I.g I.e 2 (pAskNm I a 0 (pWt (pLife I 0) (pLife I 2) I.comes a) (5 * (k : Int))) else pSay I (5 * (k : Int)) a := rfl
        have hz0 : ρ1 53 0 a = pLife I 0 a := zR_a hZ ham 0 (by decide)
        have hz2 : ρ1 55 0 a = pLife I 2 a := zR_a hZ ham 2 (by decide)
        have hw : pWt (ρ1 53 0) (ρ1 55 0) (ρ1 39 0) a = pWt (pLife I 0) (pLife I 2) I.comes a := by unfold pWt; rw [hz0, hz2, hI.comes a ham]
        rw [ke134_3, hI.m, if_pos (by omega), if_pos hb, Int.toNat_natCast, kc113 (d + 4) a ρ1 (by omega), rI_some, hz0, hw]
        by_cases q : pLife I 0 a = 2
        · rw [if_pos q] at hs1
          have hk1 := pAsk_b (g := I.g) (e := I.e) (p := 2) (nm := pAskNm I a 0 (pWt (pLife I 0) (pLife I 2) I.comes a) (5 * (k : Int))) (by decide)
          rw [if_pos q]
          refine mwI_rI (mwI_mono (kc98 (d + 2) 2 a t 0 _ _ I.g I.e ρ1 (by decide) (by omega) hI.law hI.rule hI.txt hO.txt) (fun x ρ2 g => ?_))
          obtain ⟨g1, g2⟩ := g
          rw [hI.base a ham, hI.more a ham, hI.letter a ham, show pNm (I.base a) (I.more a) 0 (pWt (pLife I 0) (pLife I 2) I.comes a) (5 * (k : Int)) (I.letter a) = pAskNm I a 0 (pWt (pLife I 0) (pLife I 2) I.comes a) (5 * (k : Int)) from rfl] at g1
          rw [g1, wi (z := pSay I (5 * (k : Int)) a + _) (by omega) (by omega), ← hs1, wk a (m := 16) (by omega) (by omega)]
          exact ihi (a + 1) ρ2 (by omega) (iR_fr hI g2 (by decide)) (zR_fr hZ g2 (by decide)) (fr_tr hf (sR_S g2 (by decide)))
        · rw [if_neg q] at hs1
          rw [if_neg q, Int.add_zero, wi (z := pSay I (5 * (k : Int)) a) (by omega) (by omega), wk a (m := 16) (by omega) (by omega), ← hs1]
          exact ihi (a + 1) ρ1 (by omega) hI hZ hf
    exact inner I.m 0 ρ1 (by omega) hI hZ hf
theorem op_say (d : Nat) (w : Int) {μ ρ : mj_M} (h : Inv μ ρ) : mw2 (kc (d + 20) 24 [v_r 0 0, v_i w] μ) (kc (d + 20) 134 [v_r 33 0, v_i w] ρ) := by
  obtain ⟨I, t, hD, -⟩ := Inv_day h
  obtain ⟨n4, m16, t6, cn, rn, cm, rm⟩ := dAll_n hD
  rw [ke24_0, ke134_0, kc44, kc72, rI_some, rI_some]
  by_cases qw : 0 ≤ w ∧ w ≤ 1
  · rw [b01_t qw, if_neg n10, if_neg n10]
    refine mw2_of (x := pPick w (pLe wS (hSay I) 13)) h ?_ ?_
    · refine mwI_rV (mwV_mono (kc188 (d + 18) μ wS (hSay I)) (fun μ1 g => ?_))
      refine mwI_rV (mwV_mono (tC_is (d + 13) hD g.2) (fun μ2 g2 => ?_))
      have hf := g2.2.1.2.2
      exact kd24 (d + 14) w μ I t hD.2.2.1 t6 13 0 μ2 _ _ (by omega) ⟨⟨iC_sC hD.1 hf, by rw [sC_at hf (by decide) (Or.inl (by decide))]; exact hD.2.2.2.1⟩, g2.1, g2.2.1.1, hf⟩ ⟨by rw [g2.2.2]; exact g.1.1, by rw [g2.2.2]; exact g.1.2⟩
    · refine mwI_rV (mwV_mono (liveR (d + 12) hD) (fun ρ1 g => ?_))
      exact kd134 (d + 14) w ρ I t hD.2.2.1 13 0 ρ1 0 0 _ _ (by omega) g.2.1 g.1 g.2.2 (Or.inl rfl)
  · rw [b01_f qw, if_pos rfl, if_pos rfl]; exact mw2_same _ h
