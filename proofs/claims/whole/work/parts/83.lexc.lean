/-! the class reads a token -/
def c5 : Nat → Nat → Nat → Bool := fun s _ k => s == 14 && k == 5
def fL : Nat → Nat → Nat → Bool := fun s _ k => s == 14 && (k == 5 || (k == 6 || (k == 7 || k == 8)))
theorem c5_fL {μ μ' : mj_M} (h : fr c5 μ μ') : fr fL μ μ' := fr_no h (fun s i k q => by simp [c5] at q; simp [fL]; omega)
theorem e209 (d : Nat) (a b : Int) (μ : mj_M) : kc (d + 1) 209 [v_r 14 0, v_i a, v_i b] μ = kd d 209 0 [some (v_r 14 0), some (v_i a), some (v_i b)] [] μ := rfl
theorem e208 (d : Nat) (μ : mj_M) : kc (d + 1) 208 [v_r 14 0] μ = kd d 208 0 [some (v_r 14 0), none] [] μ := rfl
theorem kc209 (d z : Nat) (lo hi : Int) (T : Nat → Int) (hz : z ≤ 160) : ∀ j p (μ : mj_M), p + j = z → μ 14 0 1 = (z : Int) → μ 14 0 5 = (p : Int) → (∀ i, μ 15 0 i = T i) → mwV (kd (d + 1) 209 0 [some (v_r 14 0), some (v_i lo), some (v_i hi)] [] μ) (fun μ' => μ' 14 0 5 = (rn T lo hi j p : Int) ∧ fr c5 μ μ') := by
  intro j
  induction j with
  | zero =>
    intro p μ hp h1 h5 hT
    rw [ke209_0, h1, h5, if_neg (by omega)]
    exact mwV_ret ⟨h5, fr_rf⟩
  | succ j ih =>
    intro p μ hp h1 h5 hT
    have hr : rn T lo hi (j + 1) p = if lo ≤ T p ∧ T p ≤ hi then rn T lo hi j (p + 1) else p := rfl
    rw [ke209_0, h1, h5, if_pos (by omega), if_pos (by omega), Int.toNat_natCast, hT, kc44, rI_some, hr]
    by_cases q : lo ≤ T p ∧ T p ≤ hi
    · rw [b01_t q, if_neg n10, if_pos q, h5, wk p (m := 160) (by omega) (by omega)]
      refine mwV_mono (ih (p + 1) _ (by omega) ?_ (up_eq _ _ _ _ _) (fun i => by rw [up_ns (by decide)]; exact hT i)) (fun μ' g => ⟨g.1, fr_tr (fr_up rfl) g.2⟩)
      rw [up_nk (by decide)]; exact h1
    · rw [b01_f q, if_pos rfl, if_neg q]
      exact mwV_ret ⟨h5, fr_rf⟩
def c8 : Nat → Nat → Nat → Bool := fun s _ k => s == 14 && k == 8
theorem kc211 (d s e : Nat) (T : Nat → Int) (hse : s ≤ e) (he : e ≤ 160) (μ : mj_M) (h5 : μ 14 0 5 = (e : Int)) (h6 : μ 14 0 6 = (s : Int)) (hT : ∀ i, μ 15 0 i = T i) : mwI (kc (d + 1) 211 [v_r 14 0] μ) (fun x μ' => x = (if 4 < e - s then 15 else 13) ∧ fr c8 μ μ' ∧ (e - s ≤ 4 → μ' 14 0 8 = nv T (e - s) s 0)) := by
  rw [ke211_0, h5, h6, wi (z := (e : Int) - (s : Int)) (by omega) (by omega)]
  by_cases q : 4 < e - s
  · rw [if_pos (by omega), if_pos q]
    exact mwI_ret ⟨rfl, fr_rf, fun w => by omega⟩
  · rw [if_neg (by omega), if_neg q]
    have key : ∀ j p v (μ1 : mj_M), p + j = e → fr c8 μ μ1 → μ1 14 0 8 = v → mwI (kd d 211 2 [some (v_r 14 0), some (v_i (p : Int))] [] μ1) (fun x μ' => x = 13 ∧ fr c8 μ μ' ∧ μ' 14 0 8 = nv T j p v) := by
      intro j
      induction j with
      | zero =>
        intro p v μ1 hp hf h8
        rw [ke211_2, (hf 14 0 5 rfl).trans h5, if_neg (by omega)]
        exact mwI_ret ⟨rfl, hf, h8⟩
      | succ j ih =>
        intro p v μ1 hp hf h8
        rw [ke211_2, (hf 14 0 5 rfl).trans h5, if_pos (by omega), if_pos (by omega), h8, Int.toNat_natCast, (hf 15 0 p rfl).trans (hT p), wk p (m := 160) (by omega) (by omega), nv_s, Int.mul_comm v 10]
        exact ih (p + 1) _ _ (by omega) (fr_tr hf (fr_up rfl)) (up_eq _ _ _ _ _)
    exact mwI_mono (key (e - s) s 0 _ (by omega) (fr_up rfl) (up_eq _ _ _ _ _)) (fun x μ' g => ⟨g.1, g.2.1, fun _ => g.2.2⟩)
theorem w6 (w i : Nat) (hw : w < 12) (hi : i < 6) : mj_w (mj_w ((w : Int) * 6) + (i : Int)) = ((6 * w + i : Nat) : Int) := by
  rw [wi (z := (w : Int) * 6) (by omega) (by omega), wi (by omega) (by omega)]; omega
theorem wadd (s i : Nat) (h : s ≤ 160) (h' : i ≤ 160) : mj_w ((s : Int) + (i : Int)) = ((s + i : Nat) : Int) := by
  rw [wi (by omega) (by omega)]; omega
theorem kc213 (d w s e : Nat) (hw : w < 12) (T : Nat → Int) (hse : s ≤ e) (he : e ≤ 160) (μ : mj_M) (h5 : μ 14 0 5 = (e : Int)) (h6 : μ 14 0 6 = (s : Int)) (hT : ∀ i, μ 15 0 i = T i) : kc (d + 1) 213 [v_r 14 0, v_i (w : Int)] μ = some (some (v_i (b01 (mCw (pd T s e) w))), μ) := by
  rw [ke213_0]
  have key : ∀ j i (o3 : Option mj_V), i + j = 6 → (∀ k, k < i → Wt (6 * w + k) = pd T s e k) → kd d 213 1 [some (v_r 14 0), some (v_i (w : Int)), some (v_i (i : Int)), o3] [] μ = some (some (v_i (b01 (mCw (pd T s e) w))), μ) := by
    intro j
    induction j with
    | zero =>
      intro i o3 hi h
      have e6 : i = 6 := by omega
      rw [ke213_1, if_neg (by omega), b01_t (fun k hk => h k (by omega))]
    | succ j ih =>
      intro i o3 hi h
      have three : ∀ x o3, x = pd T s e i → kd d 213 3 [some (v_r 14 0), some (v_i (w : Int)), some (v_i (i : Int)), o3] [v_i x] μ = some (some (v_i (b01 (mCw (pd T s e) w))), μ) := by
        intro x o3 hx
        rw [ke213_3, w6 w i hw (by omega), tb_w _ _ (by omega)]
        by_cases q : Wt (6 * w + i) = x
        · rw [if_pos q, wk i (m := 6) (by omega) (by omega)]
          refine ih (i + 1) _ (by omega) (fun k hk => ?_)
          by_cases ek : k = i
          · rw [ek, q, hx]
          · exact h k (by omega)
        · rw [if_neg q, b01_f (fun z => q ((z i (by omega)).trans hx.symm))]
      rw [ke213_1, if_pos (by omega), h5, h6, wadd s i (by omega) (by omega)]
      by_cases q : s + i < e
      · rw [if_pos (Int.ofNat_lt.mpr q), if_pos ⟨Int.natCast_nonneg _, Int.ofNat_lt.mpr (Nat.lt_of_lt_of_le q he)⟩, Int.toNat_natCast, hT]
        exact three _ _ (by unfold pd; rw [if_pos q])
      · rw [if_neg (fun w => q (Int.ofNat_lt.mp w))]
        exact three _ _ (by unfold pd; rw [if_neg q])
  exact key 6 0 _ (by omega) (fun k hk => absurd hk (Nat.not_lt_zero k))
theorem nat_n1 (w : Nat) : ¬ (w : Int) = -1 := by omega
theorem kd212 (d s e : Nat) (T : Nat → Int) (hse : s ≤ e) (he : e ≤ 160) (μ : mj_M) (h5 : μ 14 0 5 = (e : Int)) (h6 : μ 14 0 6 = (s : Int)) (hT : ∀ i, μ 15 0 i = T i) : ∀ (j w : Nat), w + j = 12 → kd (d + 1) 212 2 [some (v_r 14 0), some (v_i (w : Int))] [] μ = some (some (v_i (if pSr (mCw (pd T s e)) vN j w = -1 then 15 else pSr (mCw (pd T s e)) vN j w)), μ) := by
  intro j
  induction j with
  | zero => intro w hw; rw [ke212_2, if_neg (by omega)]; rfl
  | succ j ih =>
    intro w hw
    have hw12 : w < 12 := by omega
    have hwi : (w : Int) < 12 := by omega
    have hws : w + 1 + j = 12 := by omega
    have hp : pSr (mCw (pd T s e)) vN (j + 1) w = if mCw (pd T s e) w then (w : Int) else pSr (mCw (pd T s e)) vN j (w + 1) := rfl
    rw [ke212_2, if_pos hwi, kc213 d w s e hw12 T hse he μ h5 h6 hT, rI_some, hp]
    by_cases qm : mCw (pd T s e) w
    · rw [b01_t qm, if_neg n10, if_pos qm, if_neg (nat_n1 w)]
    · rw [b01_f qm, if_pos rfl, if_neg qm, wk w hw12 (by decide)]
      exact ih (w + 1) hws
theorem kc212 (d s e : Nat) (T : Nat → Int) (hse : s ≤ e) (he : e ≤ 160) (μ : mj_M) (h5 : μ 14 0 5 = (e : Int)) (h6 : μ 14 0 6 = (s : Int)) (hT : ∀ i, μ 15 0 i = T i) : kc (d + 2) 212 [v_r 14 0] μ = some (some (v_i (wC T s e)), μ) := by
  rw [ke212_0, h5, h6, wi (z := (e : Int) - (s : Int)) (by omega) (by omega)]
  by_cases q : 6 < e - s
  · have q' : (6 : Int) < (e : Int) - (s : Int) := by omega
    rw [if_pos q', show wC T s e = 15 from if_pos q]
  · have q' : ¬ (6 : Int) < (e : Int) - (s : Int) := by omega
    rw [if_neg q', show wC T s e = if pSr (mCw (pd T s e)) vN 12 0 = -1 then 15 else pSr (mCw (pd T s e)) vN 12 0 from if_neg q]
    exact kd212 d s e T hse he μ h5 h6 hT 12 0 rfl
theorem kc210 (d : Nat) (b : Int) (μ : mj_M) : ∃ x, kc (d + 1) 210 [v_i b] μ = some (some (v_i x), μ) ∧ ((x = 0 ∧ ¬ isSg b) ∨ (x = 1 ∧ isSg b)) := by
  rw [ke210_0]
  unfold isSg
  by_cases q1 : b = 40
  · rw [if_pos q1]; exact ⟨1, rfl, Or.inr ⟨rfl, by omega⟩⟩
  rw [if_neg q1]
  by_cases q2 : b = 41
  · rw [if_pos q2]; exact ⟨1, rfl, Or.inr ⟨rfl, by omega⟩⟩
  rw [if_neg q2]
  by_cases q3 : b = 59
  · rw [if_pos q3]; exact ⟨1, rfl, Or.inr ⟨rfl, by omega⟩⟩
  rw [if_neg q3]
  by_cases q4 : b = 43
  · rw [if_pos q4]; exact ⟨1, rfl, Or.inr ⟨rfl, by omega⟩⟩
  rw [if_neg q4]
  by_cases q5 : b = 45
  · rw [if_pos q5]; exact ⟨1, rfl, Or.inr ⟨rfl, by omega⟩⟩
  rw [if_neg q5]
  by_cases q6 : b = 42
  · rw [if_pos q6]; exact ⟨1, rfl, Or.inr ⟨rfl, by omega⟩⟩
  rw [if_neg q6]
  by_cases q7 : b = 60
  · rw [if_pos q7]; exact ⟨1, rfl, Or.inr ⟨rfl, by omega⟩⟩
  rw [if_neg q7]
  by_cases q8 : b = 61
  · rw [if_pos q8]; exact ⟨1, rfl, Or.inr ⟨rfl, by omega⟩⟩
  rw [if_neg q8]
  exact ⟨0, rfl, Or.inl ⟨rfl, by omega⟩⟩
/-- where the class stands behind a token: it holds the next one -/
def hTk (μ : mj_M) (T : Nat → Int) (z p : Nat) : Prop := μ 14 0 5 = (lE T z p : Int) ∧ μ 14 0 6 = (lS T z p : Int) ∧ μ 14 0 7 = lK T z p ∧ (lK T z p = 13 → μ 14 0 8 = lV T z p)
theorem wC_13 (T : Nat → Int) (s e : Nat) : wC T s e ≠ 13 := by
  rcases wC_sp T s e with ⟨h1, -⟩ | ⟨v, v1, -, -, v2⟩
  · rw [h1]; decide
  · rw [v2]; omega
theorem sg_13 {b : Int} (h : isSg b) : b ≠ 13 := by
  unfold isSg at h; omega
theorem kc208 (d z p : Nat) (T : Nat → Int) (hz : z ≤ 160) (hp : p ≤ z) (μ : mj_M) (h1 : μ 14 0 1 = (z : Int)) (h5 : μ 14 0 5 = (p : Int)) (hT : ∀ i, μ 15 0 i = T i) : mwV (kc (d + 4) 208 [v_r 14 0] μ) (fun μ' => hTk μ' T z p ∧ fr fL μ μ') := by
  rw [e208]
  have two : ∀ (μ1 : mj_M) o, fr fL μ μ1 → μ1 14 0 5 = (lS T z p : Int) → mwV (kd (d + 3) 208 2 [some (v_r 14 0), o] [] μ1) (fun μ' => hTk μ' T z p ∧ fr fL μ μ') := by
    intro μ1 o hf hs
    have hb := lS_b (T := T) hp
    have hz1 : μ1 14 0 1 = (z : Int) := (hf 14 0 1 rfl).trans h1
    have hE := lE_b (T := T) hp
    have hE160 : lE T z p ≤ 160 := Nat.le_trans hE.2.1 hz
    rw [ke208_2, hs, hz1]
    by_cases q0 : lS T z p = z
    · rw [if_neg (fun w => absurd (Int.ofNat_lt.mp w) (by rw [q0]; exact Nat.lt_irrefl z))]
      refine mwV_ret ⟨⟨?_, ?_, ?_, fun w => ?_⟩, fr_tr hf (fr_tr (fr_up rfl) (fr_up rfl))⟩
      · rw [up_nk (by decide), up_nk (by decide), hs]; unfold lE; rw [if_pos q0, q0]
      · rw [up_nk (by decide), up_eq]
      · rw [up_eq, lK_end q0]
      · rw [lK_end q0] at w; exact absurd w (by decide)
    · have hslt : lS T z p < z := Nat.lt_of_le_of_ne hb.2 q0
      have hs160 : lS T z p < 160 := Nat.lt_of_lt_of_le hslt hz
      have hsz : lS T z p + (z - lS T z p) = z := Nat.add_sub_cancel' hb.2
      have hT1 : ∀ i, μ1 15 0 i = T i := fun i => (hf 15 0 i rfl).trans (hT i)
      have eE : lE T z p = if 97 ≤ T (lS T z p) ∧ T (lS T z p) ≤ 122 then rn T 97 122 (z - lS T z p) (lS T z p) else if 48 ≤ T (lS T z p) ∧ T (lS T z p) ≤ 57 then rn T 48 57 (z - lS T z p) (lS T z p) else lS T z p + 1 := if_neg q0
      have eC : lK T z p = if 97 ≤ T (lS T z p) ∧ T (lS T z p) ≤ 122 then wC T (lS T z p) (lE T z p) else if 48 ≤ T (lS T z p) ∧ T (lS T z p) ≤ 57 then (if 4 < lE T z p - lS T z p then 15 else 13) else @ite Int (isSg (T (lS T z p))) (Classical.propDecidable _) (T (lS T z p)) 15 := if_neg q0
      rw [if_pos (Int.ofNat_lt.mpr hslt), if_pos ⟨Int.natCast_nonneg _, Int.ofNat_lt.mpr hs160⟩, Int.toNat_natCast, hT1, kc44, rI_some]
      generalize hμ2 : mj_up μ1 14 0 6 (lS T z p : Int) = μ2
      have hf2 : fr fL μ μ2 := by rw [← hμ2]; exact fr_tr hf (fr_up rfl)
      have h26 : μ2 14 0 6 = (lS T z p : Int) := by rw [← hμ2]; exact up_eq _ _ _ _ _
      have h25 : μ2 14 0 5 = (lS T z p : Int) := by rw [← hμ2, up_nk (by decide)]; exact hs
      have h21 : μ2 14 0 1 = (z : Int) := (hf2 14 0 1 rfl).trans h1
      have hT2 : ∀ i, μ2 15 0 i = T i := fun i => (hf2 15 0 i rfl).trans (hT i)
      by_cases q1 : 97 ≤ T (lS T z p) ∧ T (lS T z p) ≤ 122
      · rw [if_pos q1] at eE eC
        rw [b01_t q1, if_neg n10, e209]
        refine mwV_rV (mwV_mono (kc209 (d + 1) z 97 122 T hz (z - lS T z p) (lS T z p) μ2 hsz h21 h25 hT2) (fun μ3 g => ?_))
        obtain ⟨g1, g2⟩ := g
        rw [← eE] at g1
        rw [kc212 (d + 1) (lS T z p) (lE T z p) T hE.1 hE160 μ3 g1 ((g2 14 0 6 rfl).trans h26) (fun i => (g2 15 0 i rfl).trans (hT2 i)), rI_some]
        refine mwV_ret ⟨⟨?_, ?_, ?_, fun w => ?_⟩, fr_tr (fr_tr hf2 (c5_fL g2)) (fr_up rfl)⟩
        · rw [up_nk (by decide)]; exact g1
        · rw [up_nk (by decide)]; exact (g2 14 0 6 rfl).trans h26
        · rw [up_eq, eC]
        · rw [eC] at w; exact absurd w (wC_13 _ _ _)
      · rw [if_neg q1] at eE eC
        rw [b01_f q1, if_pos rfl, kc44, rI_some]
        by_cases q2 : 48 ≤ T (lS T z p) ∧ T (lS T z p) ≤ 57
        · rw [if_pos q2] at eE eC
          rw [b01_t q2, if_neg n10, e209]
          refine mwV_rV (mwV_mono (kc209 (d + 1) z 48 57 T hz (z - lS T z p) (lS T z p) μ2 hsz h21 h25 hT2) (fun μ3 g => ?_))
          obtain ⟨g1, g2⟩ := g
          rw [← eE] at g1
          refine mwV_rI (mwI_mono (kc211 (d + 2) (lS T z p) (lE T z p) T hE.1 hE160 μ3 g1 ((g2 14 0 6 rfl).trans h26) (fun i => (g2 15 0 i rfl).trans (hT2 i))) (fun x μ4 g => ?_))
          obtain ⟨rfl, g3, g4⟩ := g
          refine mwV_ret ⟨⟨?_, ?_, ?_, fun w => ?_⟩, fr_tr (fr_tr (fr_tr hf2 (c5_fL g2)) (fr_no g3 (fun s i k q => by simp [c8] at q; simp [fL]; omega))) (fr_up rfl)⟩
          · rw [up_nk (by decide), g3 14 0 5 rfl]; exact g1
          · rw [up_nk (by decide), g3 14 0 6 rfl]; exact (g2 14 0 6 rfl).trans h26
          · rw [up_eq, eC]
          · rw [up_nk (by decide)]
            rw [eC] at w
            by_cases q4 : 4 < lE T z p - lS T z p
            · rw [if_pos q4] at w; exact absurd w (by decide)
            · exact g4 (Nat.not_lt.mp q4)
        · rw [if_neg q2] at eE eC
          rw [b01_f q2, if_pos rfl, h25, wk (lS T z p) hs160 (by decide)]
          obtain ⟨x, ex, hx⟩ := kc210 (d + 2) (T (lS T z p)) (mj_up μ2 14 0 5 ((lS T z p + 1 : Nat) : Int))
          rw [ex, rI_some]
          rcases hx with ⟨rfl, hx⟩ | ⟨rfl, hx⟩
          · rw [if_neg hx] at eC
            rw [if_pos rfl]
            refine mwV_ret ⟨⟨?_, ?_, ?_, fun w => ?_⟩, fr_tr (fr_tr hf2 (fr_up rfl)) (fr_up rfl)⟩
            · rw [up_nk (by decide), up_eq, eE]
            · rw [up_nk (by decide), up_nk (by decide)]; exact h26
            · rw [up_eq, eC]
            · rw [eC] at w; exact absurd w (by decide)
          · rw [if_pos hx] at eC
            rw [if_neg n10]
            refine mwV_ret ⟨⟨?_, ?_, ?_, fun w => ?_⟩, fr_tr (fr_tr hf2 (fr_up rfl)) (fr_up rfl)⟩
            · rw [up_nk (by decide), up_eq, eE]
            · rw [up_nk (by decide), up_nk (by decide)]; exact h26
            · rw [up_eq, eC]
            · rw [eC] at w; exact absurd w (sg_13 hx)
  have one : ∀ j q (μ1 : mj_M) o, q + j = z → fr fL μ μ1 → μ1 14 0 5 = (q : Int) → sk T j q = lS T z p → mwV (kd (d + 3) 208 0 [some (v_r 14 0), o] [] μ1) (fun μ' => hTk μ' T z p ∧ fr fL μ μ') := by
    intro j
    induction j with
    | zero =>
      intro q μ1 o hq hf hs hk
      have ek : q = lS T z p := hk
      have hqz : q = z := hq
      rw [ke208_0, hs, (hf 14 0 1 rfl).trans h1, if_neg (fun w => absurd (Int.ofNat_lt.mp w) (by rw [hqz]; exact Nat.lt_irrefl z))]
      exact two μ1 _ hf (ek ▸ hs)
    | succ j ih =>
      intro q μ1 o hq hf hs hk
      have hk2 : sk T (j + 1) q = if T q = 32 ∨ T q = 10 then sk T j (q + 1) else q := rfl
      rw [hk2] at hk
      have hqz : q < z := by rw [← hq]; exact Nat.lt_add_of_pos_right (Nat.succ_pos j)
      have hqs : q + 1 + j = z := by rw [← hq, Nat.add_assoc, Nat.add_comm 1 j]
      have hq160 : q < 160 := Nat.lt_of_lt_of_le hqz hz
      have hb160 : 0 ≤ (q : Int) ∧ (q : Int) < 160 := ⟨Int.natCast_nonneg _, Int.ofNat_lt.mpr hq160⟩
      rw [ke208_0, hs, (hf 14 0 1 rfl).trans h1, if_pos (Int.ofNat_lt.mpr hqz), if_pos hb160, Int.toNat_natCast, (hf 15 0 q rfl).trans (hT q), wk q hq160 (by decide)]
      have next : (T q = 32 ∨ T q = 10) → mwV (kd (d + 3) 208 0 [some (v_r 14 0), none] [] (mj_up μ1 14 0 5 ((q + 1 : Nat) : Int))) (fun μ' => hTk μ' T z p ∧ fr fL μ μ') := fun w => ih (q + 1) _ _ hqs (fr_tr hf (fr_up rfl)) (up_eq _ _ _ _ _) (by rw [if_pos w] at hk; exact hk)
      by_cases w1 : T q = 32
      · rw [if_pos w1]; exact next (Or.inl w1)
      · rw [if_neg w1, if_pos hb160]
        by_cases w2 : T q = 10
        · rw [if_pos w2]; exact next (Or.inr w2)
        · rw [if_neg w2]
          rw [if_neg (fun w => w.elim w1 w2)] at hk
          exact two μ1 _ hf (hk ▸ hs)
  exact one (z - p) p μ _ (Nat.add_sub_cancel' hp) fr_rf h5 rfl
