/-! the class reads the first law through -/
def rOK (T : Nat → Int) (z L o p q : Nat) (R : List Int) : Prop := dCl T z (mth L) o p (dep L o) (.inr (q, R))
theorem run_one {T : Nat → Int} {z o p : Nat} (hz : z ≤ 160) (hp : p ≤ z) (hc : lK T z p = 13 ∨ (6 ≤ lK T z p ∧ lK T z p < 12)) (hlt : p < lE T z p) : rOK T z 7 o p (lE T z p) [cdO T z p] := by
  have hEz := (lE_b (T := T) hp).2.1
  intro d W μ hd hW h
  have h7 := dep_7 7 o
  obtain ⟨d', rfl⟩ : ∃ d', d = d' + 4 + 1 := ⟨d - 5, by omega⟩
  have tok := h.1.2.2.1
  have hW160 : W.length < 160 := by omega
  have fin : mwI (mj_rV (kc (d' + 4) 200 [v_r 14 0, v_i (unc (cdO T z p))] μ) fun m1 => mj_rV (kc (d' + 4) 208 [v_r 14 0] m1) fun m2 => some (some (v_i 1), m2)) (fun x μ' => rC T z x μ' (.inr (lE T z p, [cdO T z p])) W ∧ fr fP μ μ') := by
    refine mwI_rV (mwV_mono (tellC (d' + 3) (cdO T z p) hW160 h) (fun μ1 g => ?_))
    refine mwI_rV (mwV_mono (stepC d' hz hp g.1) (fun μ2 g2 => ?_))
    exact mwI_ret ⟨⟨rfl, g2.1⟩, fr_tr g.2 g2.2⟩
  have hu : lK T z p = 13 → unc (cdO T z p) = lV T z p := fun w => by
    unfold cdO; rw [if_pos w, unc_num (lK_13 hp w).1]
  have hu2 : 6 ≤ lK T z p ∧ lK T z p < 12 → ¬ lK T z p = 13 → unc (cdO T z p) = -lK T z p - 1 := fun w w2 => by
    unfold cdO; rw [if_neg w2, unc_nam w]
  show mwI (kc (d' + 4 + 1) 206 _ _) _
  rw [ke206_0, tok]
  rcases hc with e | e
  · rw [if_neg (show ¬ lK T z p = 45 by rw [e]; decide), if_neg (show ¬ lK T z p = 40 by rw [e]; decide), kc44, rI_some, tok, if_pos e, b01_f (by rw [e]; decide)]
    rw [hu e, ← h.1.2.2.2 e] at fin
    rw [ke206_3, if_pos rfl]; exact fin
  · have e13 : ¬ lK T z p = 13 := by omega
    have e45 : ¬ lK T z p = 45 := by omega
    have e40 : ¬ lK T z p = 40 := by omega
    rw [hu2 e e13] at fin
    rw [if_neg e45, if_neg e40, kc44, rI_some, tok, if_neg e13, b01_t (show 6 ≤ lK T z p ∧ lK T z p ≤ 11 by omega), if_neg n10, ke206_3, if_neg n10, tok]
    exact fin
def isEnt (L L' o : Nat) (isL : Nat → Int → Nat → mj_M → mj_R → Prop) : Prop := ∀ d μ, ∃ f : Int → mj_M → mj_R, kc (d + 1) (mth L) [v_r 14 0, v_i (o : Int)] μ = mj_rI (kc d (mth L') [v_r 14 0, v_i (o : Int)] μ) f ∧ ∀ x m, isL d x 0 m (f x m)
theorem run_last {T : Nat → Int} {z L L' o p q : Nat} {R : List Int} {op : Int → Prop} {isL : Nat → Int → Nat → mj_M → mj_R → Prop} (hl : isLoop (mth L') o op isL) (hent : isEnt L L' o isL) (hdep : dep L o = dep L' o + 1) (h0 : rOK T z L' o p q R) (hq : ¬ op (lK T z q)) : rOK T z L o p q R := by
  intro d W μ hd hW h
  obtain ⟨d', rfl⟩ : ∃ d', d = d' + 1 := ⟨d - 1, by omega⟩
  obtain ⟨f, e, hf⟩ := hent d' μ
  rw [e]
  refine mwI_rI (mwI_mono (h0 d' W μ (by omega) hW h) (fun x μ2 g => ?_))
  obtain ⟨⟨rfl, hx⟩, f2⟩ := g
  rw [hl.2.1 _ _ _ _ (hf 1 μ2) (by rw [hx.1.2.2.1]; exact hq)]
  exact mwI_ret ⟨⟨rfl, hx⟩, f2⟩
theorem run_two {T : Nat → Int} {z L L' o p q q2 : Nat} {R R2 : List Int} {op : Int → Prop} {isL : Nat → Int → Nat → mj_M → mj_R → Prop} (hz : z ≤ 160) (hqz : q ≤ z) (hl : isLoop (mth L') o op isL) (hent : isEnt L L' o isL) (hdep : dep L o = dep L' o + 1) (h0 : rOK T z L' o p q R) (hq : op (lK T z q)) (h1 : rOK T z L' o (lE T z q) q2 R2) (hq2 : ¬ op (lK T z q2)) (hb : p + R.length ≤ lE T z q ∧ p + R.length + R2.length < 160) : rOK T z L o p q2 (sgn (lK T z q) :: (R2 ++ R)) := by
  intro d W μ hd hW h
  have h7 := dep_7 L' o
  obtain ⟨d', rfl⟩ : ∃ d', d = d' + 4 + 1 := ⟨d - 5, by omega⟩
  obtain ⟨f, e, hf⟩ := hent (d' + 4) μ
  rw [e]
  refine mwI_rI (mwI_mono (h0 (d' + 4) W μ (by omega) hW h) (fun x μ2 g => ?_))
  obtain ⟨⟨rfl, hx⟩, f2⟩ := g
  obtain ⟨f', e', hf'⟩ := hl.1 _ _ _ _ (hf 1 μ2) (by decide) (by rw [hx.1.2.2.1]; exact hq)
  rw [e', hx.1.2.2.1]
  refine mwI_rV (mwV_mono (stepC d' hz hqz hx) (fun μ3 g3 => ?_))
  have hWl : (R ++ W).length ≤ lE T z q := by rw [List.length_append]; omega
  refine mwI_rI (mwI_mono (h1 (d' + 4) (R ++ W) μ3 (by omega) hWl g3.1) (fun x μ4 g4 => ?_))
  obtain ⟨⟨rfl, hx4⟩, f4⟩ := g4
  have hW160 : (R2 ++ (R ++ W)).length < 160 := by rw [List.length_append, List.length_append]; omega
  refine mwI_rV (mwV_mono (tellC (d' + 3) (sgn (lK T z q)) hW160 hx4) (fun μ5 g5 => ?_))
  rw [hl.2.1 _ _ _ _ (hf' 1 μ5) (by rw [g5.1.1.2.2.1]; exact hq2)]
  have e2 : sgn (lK T z q) :: (R2 ++ (R ++ W)) = (sgn (lK T z q) :: (R2 ++ R)) ++ W := by rw [List.cons_append, List.append_assoc]
  have g51 := g5.1
  rw [e2] at g51
  exact mwI_ret ⟨⟨rfl, g51⟩, fr_tr f2 (fr_tr g3.2 (fr_tr f4 g5.2))⟩
theorem run_not {T : Nat → Int} {z o p q : Nat} {R : List Int} (h0 : rOK T z 5 o p q R) (hp : lK T z p ≠ 5) (hq : lK T z q ≠ 60 ∧ lK T z q ≠ 61) : rOK T z 3 o p q R := by
  intro d W μ hd hW h
  have hdd := dep35 o
  obtain ⟨d', rfl⟩ : ∃ d', d = d' + 1 := ⟨d - 1, by omega⟩
  show mwI (kc (d' + 1) 203 _ _) _
  rw [ke203_0, h.1.2.2.1, if_neg hp]
  refine mwI_rI (mwI_mono (h0 d' W μ (by omega) hW h) (fun x μ2 g => ?_))
  obtain ⟨⟨rfl, hx⟩, f2⟩ := g
  rw [if_neg n10, hx.1.2.2.1, if_neg hq.1, if_neg hq.2, if_pos (Or.inr rfl)]
  exact mwI_ret ⟨⟨rfl, hx⟩, f2⟩
theorem run6 {T : Nat → Int} {z o p q : Nat} {R : List Int} (h0 : rOK T z 7 o p q R) (hq : lK T z q ≠ 42) : rOK T z 6 o p q R := run_last (L := 6) (L' := 7) (loop205 o) (fun d μ => ⟨_, ke205_0 d (o : Int) μ, fun _ _ => rfl⟩) rfl h0 hq
theorem run6b {T : Nat → Int} {z o p q q2 : Nat} {R R2 : List Int} (hz : z ≤ 160) (hqz : q ≤ z) (h0 : rOK T z 7 o p q R) (hq : lK T z q = 42) (h1 : rOK T z 7 o (lE T z q) q2 R2) (hq2 : lK T z q2 ≠ 42) (hb : p + R.length ≤ lE T z q ∧ p + R.length + R2.length < 160) : rOK T z 6 o p q2 (sgn (lK T z q) :: (R2 ++ R)) := run_two (L := 6) (L' := 7) hz hqz (loop205 o) (fun d μ => ⟨_, ke205_0 d (o : Int) μ, fun _ _ => rfl⟩) rfl h0 hq h1 hq2 hb
theorem run5 {T : Nat → Int} {z o p q : Nat} {R : List Int} (h0 : rOK T z 6 o p q R) (hq : ¬ (lK T z q = 43 ∨ lK T z q = 45)) : rOK T z 5 o p q R := run_last (L := 5) (L' := 6) (loop204 o) (fun d μ => ⟨_, ke204_0 d (o : Int) μ, fun _ _ => ⟨_, rfl⟩⟩) rfl h0 hq
theorem run5b {T : Nat → Int} {z o p q q2 : Nat} {R R2 : List Int} (hz : z ≤ 160) (hqz : q ≤ z) (h0 : rOK T z 6 o p q R) (hq : lK T z q = 43 ∨ lK T z q = 45) (h1 : rOK T z 6 o (lE T z q) q2 R2) (hq2 : ¬ (lK T z q2 = 43 ∨ lK T z q2 = 45)) (hb : p + R.length ≤ lE T z q ∧ p + R.length + R2.length < 160) : rOK T z 5 o p q2 (sgn (lK T z q) :: (R2 ++ R)) := run_two (L := 5) (L' := 6) hz hqz (loop204 o) (fun d μ => ⟨_, ke204_0 d (o : Int) μ, fun _ _ => ⟨_, rfl⟩⟩) rfl h0 hq h1 hq2 hb
theorem run1 {T : Nat → Int} {z o p q : Nat} {R : List Int} (h0 : rOK T z 5 o p q R) (hp : lK T z p ≠ 5) (hq : lK T z q = 59) : rOK T z 1 o p q R := by
  have h3 : rOK T z 3 o p q R := run_not h0 hp ⟨by rw [hq]; decide, by rw [hq]; decide⟩
  have h2 : rOK T z 2 o p q R := run_last (L := 2) (L' := 3) (loop202 o) (fun d μ => ⟨_, ke202_0 d (o : Int) μ, fun _ _ => rfl⟩) rfl h3 (show ¬ lK T z q = 4 by rw [hq]; decide)
  exact run_last (L := 1) (L' := 2) (loop201 o) (fun d μ => ⟨_, ke201_0 d (o : Int) μ, fun _ _ => rfl⟩) rfl h2 (show ¬ lK T z q = 3 by rw [hq]; decide)
theorem law0 : ∃ R, rOK Tl 54 1 0 5 17 R ∧ R.length = 3 := by
  have a : rOK Tl 54 7 0 5 10 [cdO Tl 54 5] := tl5.1 ▸ run_one (by decide) (by decide) (Or.inr (by rw [tl5.2]; decide)) (by rw [tl5.1]; decide)
  have b : rOK Tl 54 7 0 (lE Tl 54 10) 17 [cdO Tl 54 12] := by
    rw [tl10.1]
    exact tl12.1 ▸ run_one (by decide) (by decide) (Or.inr (by rw [tl12.2]; decide)) (by rw [tl12.1]; decide)
  exact ⟨_, run1 (run5b (by decide) (by decide) (run6 a (by rw [tl10.2]; decide)) (Or.inl tl10.2) (run6 b (by rw [tl17.2]; decide)) (by rw [tl17.2]; decide) (by rw [tl10.1]; decide)) (by rw [tl5.2]; decide) tl17.2, rfl⟩
theorem law1 : ∃ R, rOK Tl 54 1 0 25 39 R ∧ R.length = 5 := by
  have a : rOK Tl 54 7 0 25 28 [cdO Tl 54 25] := tl25.1 ▸ run_one (by decide) (by decide) (Or.inl tl25.2) (by rw [tl25.1]; decide)
  have b : rOK Tl 54 7 0 (lE Tl 54 28) 35 [cdO Tl 54 30] := by
    rw [tl28.1]
    exact tl30.1 ▸ run_one (by decide) (by decide) (Or.inr (by rw [tl30.2]; decide)) (by rw [tl30.1]; decide)
  have c : rOK Tl 54 7 0 (lE Tl 54 35) 39 [cdO Tl 54 37] := by
    rw [tl35.1]
    exact tl37.1 ▸ run_one (by decide) (by decide) (Or.inl tl37.2) (by rw [tl37.1]; decide)
  exact ⟨_, run1 (run5b (by decide) (by decide) (run6 a (by rw [tl28.2]; decide)) (Or.inl tl28.2) (run6b (by decide) (by decide) b tl35.2 c (by rw [tl39.2]; decide) (by rw [tl28.1, tl35.1]; decide)) (by rw [tl39.2]; decide) (by rw [tl28.1]; exact ⟨by decide, by decide⟩)) (by rw [tl25.2]; decide) tl39.2, rfl⟩
theorem law2 : ∃ R, rOK Tl 54 1 0 47 52 R ∧ R.length = 1 := by
  have a : rOK Tl 54 7 0 47 52 [cdO Tl 54 47] := tl47.1 ▸ run_one (by decide) (by decide) (Or.inr (by rw [tl47.2]; decide)) (by rw [tl47.1]; decide)
  exact ⟨_, run1 (run5 (run6 a (by rw [tl52.2]; decide)) (by rw [tl52.2]; decide)) (by rw [tl47.2]; decide) tl52.2, rfl⟩
