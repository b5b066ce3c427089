/-! the first law, as the class reads it -/
theorem lK_word {T : Nat → Int} {z p w s e : Nat} (hs : lS T z p = s) (he : lE T z p = e) (hz : s ≠ z) (hl : 97 ≤ T s ∧ T s ≤ 122) (h6 : e - s ≤ 6) (hw : w < 12) (hm : mCw (pd T s e) w) : lK T z p = (w : Int) := by
  unfold lK
  rw [hs, he, if_neg hz, if_pos hl]
  rcases wC_sp T s e with ⟨-, h⟩ | ⟨v, hv, -, h, e⟩
  · exact absurd hm (h h6 w hw)
  · rw [e, Wt_inj v hv w hw (fun i hi => (h i hi).trans (hm i hi).symm)]
theorem lK_num {T : Nat → Int} {z p s e : Nat} (hs : lS T z p = s) (he : lE T z p = e) (hz : s ≠ z) (hl : ¬ (97 ≤ T s ∧ T s ≤ 122)) (hn : 48 ≤ T s ∧ T s ≤ 57) (h4 : ¬ 4 < e - s) : lK T z p = 13 := by
  unfold lK
  rw [hs, he, if_neg hz, if_neg hl, if_pos hn, if_neg h4]
theorem lK_sig {T : Nat → Int} {z p s : Nat} (hs : lS T z p = s) (hz : s ≠ z) (hl : ¬ (97 ≤ T s ∧ T s ≤ 122)) (hn : ¬ (48 ≤ T s ∧ T s ≤ 57)) (h : isSg (T s)) : lK T z p = T s := by
  unfold lK
  rw [hs, if_neg hz, if_neg hl, if_neg hn, if_pos h]
def lawC : List Int := [116, 97, 107, 101, 115, 32, 98, 97, 115, 101, 32, 43, 32, 115, 108, 111, 119, 32, 59, 32, 119, 97, 105, 116, 115, 32, 51, 48, 32, 43, 32, 109, 111, 114, 101, 32, 42, 32, 53, 32, 59, 32, 109, 105, 110, 100, 115, 32, 119, 97, 105, 116, 32, 59]
def Tl (n : Nat) : Int := match mj_nth lawC n with
  | some x => x
  | none => 0
/-- its tokens -/
theorem tl0 : lE Tl 54 0 = 5 ∧ lK Tl 54 0 = 0 := ⟨by decide +kernel, lK_word (w := 0) (s := 0) (e := 5) (by decide +kernel) (by decide +kernel) (by decide) (by decide +kernel) (by decide) (by decide) (by decide +kernel)⟩
theorem tl5 : lE Tl 54 5 = 10 ∧ lK Tl 54 5 = 6 := ⟨by decide +kernel, lK_word (w := 6) (s := 6) (e := 10) (by decide +kernel) (by decide +kernel) (by decide) (by decide +kernel) (by decide) (by decide) (by decide +kernel)⟩
theorem tl10 : lE Tl 54 10 = 12 ∧ lK Tl 54 10 = 43 := ⟨by decide +kernel, lK_sig (s := 11) (by decide +kernel) (by decide) (by decide +kernel) (by decide +kernel) (Or.inr (Or.inr (Or.inr (Or.inl (by decide +kernel)))))⟩
theorem tl12 : lE Tl 54 12 = 17 ∧ lK Tl 54 12 = 8 := ⟨by decide +kernel, lK_word (w := 8) (s := 13) (e := 17) (by decide +kernel) (by decide +kernel) (by decide) (by decide +kernel) (by decide) (by decide) (by decide +kernel)⟩
theorem tl17 : lE Tl 54 17 = 19 ∧ lK Tl 54 17 = 59 := ⟨by decide +kernel, lK_sig (s := 18) (by decide +kernel) (by decide) (by decide +kernel) (by decide +kernel) (Or.inr (Or.inr (Or.inl (by decide +kernel))))⟩
theorem tl19 : lE Tl 54 19 = 25 ∧ lK Tl 54 19 = 1 := ⟨by decide +kernel, lK_word (w := 1) (s := 20) (e := 25) (by decide +kernel) (by decide +kernel) (by decide) (by decide +kernel) (by decide) (by decide) (by decide +kernel)⟩
theorem tl25 : lE Tl 54 25 = 28 ∧ lK Tl 54 25 = 13 := ⟨by decide +kernel, lK_num (s := 26) (e := 28) (by decide +kernel) (by decide +kernel) (by decide) (by decide +kernel) (by decide +kernel) (by decide)⟩
theorem tl28 : lE Tl 54 28 = 30 ∧ lK Tl 54 28 = 43 := ⟨by decide +kernel, lK_sig (s := 29) (by decide +kernel) (by decide) (by decide +kernel) (by decide +kernel) (Or.inr (Or.inr (Or.inr (Or.inl (by decide +kernel)))))⟩
theorem tl30 : lE Tl 54 30 = 35 ∧ lK Tl 54 30 = 7 := ⟨by decide +kernel, lK_word (w := 7) (s := 31) (e := 35) (by decide +kernel) (by decide +kernel) (by decide) (by decide +kernel) (by decide) (by decide) (by decide +kernel)⟩
theorem tl35 : lE Tl 54 35 = 37 ∧ lK Tl 54 35 = 42 := ⟨by decide +kernel, lK_sig (s := 36) (by decide +kernel) (by decide) (by decide +kernel) (by decide +kernel) (Or.inr (Or.inr (Or.inr (Or.inr (Or.inr (Or.inl (by decide +kernel)))))))⟩
theorem tl37 : lE Tl 54 37 = 39 ∧ lK Tl 54 37 = 13 := ⟨by decide +kernel, lK_num (s := 38) (e := 39) (by decide +kernel) (by decide +kernel) (by decide) (by decide +kernel) (by decide +kernel) (by decide)⟩
theorem tl39 : lE Tl 54 39 = 41 ∧ lK Tl 54 39 = 59 := ⟨by decide +kernel, lK_sig (s := 40) (by decide +kernel) (by decide) (by decide +kernel) (by decide +kernel) (Or.inr (Or.inr (Or.inl (by decide +kernel))))⟩
theorem tl41 : lE Tl 54 41 = 47 ∧ lK Tl 54 41 = 2 := ⟨by decide +kernel, lK_word (w := 2) (s := 42) (e := 47) (by decide +kernel) (by decide +kernel) (by decide) (by decide +kernel) (by decide) (by decide) (by decide +kernel)⟩
theorem tl47 : lE Tl 54 47 = 52 ∧ lK Tl 54 47 = 9 := ⟨by decide +kernel, lK_word (w := 9) (s := 48) (e := 52) (by decide +kernel) (by decide +kernel) (by decide) (by decide +kernel) (by decide) (by decide) (by decide +kernel)⟩
theorem tl52 : lE Tl 54 52 = 54 ∧ lK Tl 54 52 = 59 := ⟨by decide +kernel, lK_sig (s := 53) (by decide +kernel) (by decide) (by decide +kernel) (by decide +kernel) (Or.inr (Or.inr (Or.inl (by decide +kernel))))⟩
theorem tl54 : lK Tl 54 54 = 14 := lK_end (by decide +kernel)
