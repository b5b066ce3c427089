/-! ONE, read alike -/
theorem unc_num {v : Int} (h : 0 ≤ v) : unc (100000 + v) = v := by
  unfold unc
  rw [if_pos (by omega)]; omega
theorem unc_nam {c : Int} (h : 6 ≤ c ∧ c < 12) : unc (c - 6) = -c - 1 := by
  unfold unc
  rw [if_neg (by omega), if_pos (by omega)]; omega
theorem skipC (d : Nat) {μ : mj_M} {T : Nat → Int} {z p : Nat} {W : List Int} (t : Int) (hz : z ≤ 160) (hp : p ≤ z) (h : cQ μ T z p W) : mwI (kc (d + 5) 199 [v_r 14 0, v_i t] μ) (fun x μ' => ((lK T z p = t ∧ x = 1 ∧ cQ μ' T z (lE T z p) W) ∨ (lK T z p ≠ t ∧ x = 0 ∧ cQ μ' T z p W)) ∧ fr fP μ μ') := by
  rw [ke199_0, h.1.2.2.1]
  by_cases q : lK T z p = t
  · rw [if_pos q]
    refine mwI_rV (mwV_mono (stepC d hz hp h) (fun μ1 g => ?_))
    exact mwI_ret ⟨Or.inl ⟨q, rfl, g.1⟩, g.2⟩
  · rw [if_neg q]
    exact mwI_ret ⟨Or.inr ⟨q, rfl, h⟩, fr_rf⟩
theorem dep7 (o : Nat) (h : o < 5) : dep 7 (o + 1) + 7 = dep 7 o := by unfold dep; omega
theorem dep1 (o : Nat) (h : o < 5) : dep 1 (o + 1) + 2 = dep 7 o := by
  show 7 + 7 * (5 - (o + 1)) + 5 + 2 = 7 + 7 * (5 - o) + 0
  omega
theorem dep3 (o : Nat) (h : o < 5) : dep 3 (o + 1) + 7 = dep 3 o := by
  show 7 + 7 * (5 - (o + 1)) + 3 + 7 = 7 + 7 * (5 - o) + 3
  omega
theorem dpt1 (o : Nat) (h : o < 5) : dpt 1 (o + 1) = dpt 7 o := by
  show 1 + 5 * (5 - (o + 1)) + 5 = 1 + 5 * (5 - o) + 0
  omega
theorem dpt7 (o : Nat) : dpt 7 (o + 1) ≤ dpt 7 o := by
  show 1 + 5 * (5 - (o + 1)) + 0 ≤ 1 + 5 * (5 - o) + 0
  omega
theorem dpt3 (o : Nat) : dpt 3 (o + 1) ≤ dpt 3 o := by
  show 1 + 5 * (5 - (o + 1)) + 3 ≤ 1 + 5 * (5 - o) + 3
  omega
theorem dep_7 (L o : Nat) : 7 ≤ dep L o := by unfold dep; omega
theorem oneFull {T : Nat → Int} {z tc p : Nat} (hz : z ≤ 160) (hp : p ≤ z) (hc : lK T z p = 45 ∨ lK T z p = 40) : One T z tc 5 p := by
  refine ⟨.inl (lS T z p), ?_, trivial, ?_⟩
  · intro d W μ hd hW h
    have h7 := dep_7 7 5
    obtain ⟨d', rfl⟩ : ∃ d', d = d' + 2 := ⟨d - 2, by omega⟩
    have f5 : ¬ (((5 : Nat) : Int) < 5) := by decide
    rw [ke206_0, h.1.2.2.1]
    rcases hc with e | e
    · rw [e, if_pos rfl, ke207_0, if_neg f5, rI_some, if_pos (Or.inl rfl)]
      exact mwI_ret ⟨⟨rfl, cQ_x h⟩, fr_rf⟩
    · rw [e, if_neg (by decide), if_pos rfl, ke207_0, if_neg f5, rI_some, if_pos (Or.inl rfl)]
      exact mwI_ret ⟨⟨rfl, cQ_x h⟩, fr_rf⟩
  · intro d M H W o0 ρ mn o3 Q e hM hl hm ht hq hgo
    exact full_R d hz hp hq hc hgo
theorem oneMinus {T : Nat → Int} {z tc o p : Nat} (hz : z ≤ 160) (hp : p ≤ z) (ho : o < 5) (hc : lK T z p = 45) (IH : One T z tc (o + 1) (lE T z p)) (hlt : p < lE T z p) : One T z tc o p := by
  obtain ⟨res1, c1, v1, r1⟩ := IH
  have hEz := (lE_b (T := T) hp).2.1
  have cls : ∀ res : Res, (∀ (d : Nat) (W : List Int) (μ1 : mj_M) (x : Int), W.length ≤ p → rC T z x μ1 res1 W → mwV (kc (d + 1) 200 [v_r 14 0, v_i (-12 - 1)] μ1) (fun μ2 => rC T z x μ2 res W ∧ fr fP μ1 μ2)) → dCl T z 206 o p (dep 7 o) res := by
    intro res hr d W μ hd hW h
    have hd7 := dep7 o ho
    have h7 := dep_7 7 (o + 1)
    obtain ⟨d', rfl⟩ : ∃ d', d = d' + 4 + 2 := ⟨d - 6, by omega⟩
    rw [ke206_0, h.1.2.2.1, hc, if_pos rfl, ke207_0, if_pos (show (o : Int) < 5 from Int.ofNat_lt.mpr ho)]
    have main : mwI (mj_rV (kc (d' + 4) 208 [v_r 14 0] μ) fun m1 => if (12 : Int) = 40 then (mj_rI (kc (d' + 4) 201 [v_r 14 0, v_i (mj_w ((o : Int) + 1))] m1) fun x8 m9 => if x8 = 0 then (some (some (v_i 0), m9)) else (mj_rI (kc (d' + 4) 199 [v_r 14 0, v_i 41] m9) fun x10 m11 => if x10 = 0 then (some (some (v_i 0), m11)) else (some (some (v_i 1), m11)))) else (if (12 : Int) = 5 then (mj_rI (kc (d' + 4) 203 [v_r 14 0, v_i (mj_w ((o : Int) + 1))] m1) fun x5 m6 => mj_rV (kc (d' + 4) 200 [v_r 14 0, v_i (-12 - 1)] m6) fun m7 => if x5 = 0 ∨ x5 = 1 then (some (some (v_i x5), m7)) else (none)) else (mj_rI (kc (d' + 4) 206 [v_r 14 0, v_i (mj_w ((o : Int) + 1))] m1) fun x2 m3 => mj_rV (kc (d' + 4) 200 [v_r 14 0, v_i (-12 - 1)] m3) fun m4 => if x2 = 0 ∨ x2 = 1 then (some (some (v_i x2), m4)) else (none)))) (fun x μ' => rC T z x μ' res W ∧ fr fP μ μ') := by
      refine mwI_rV (mwV_mono (stepC d' hz hp h) (fun μ1 g => ?_))
      rw [if_neg (by decide), if_neg (by decide), wk o (m := 5) ho (by decide)]
      refine mwI_rI (mwI_mono (c1 (d' + 4) W μ1 (by omega) (Nat.le_trans hW (Nat.le_of_lt hlt)) g.1) (fun x μ2 g2 => ?_))
      refine mwI_rV (mwV_mono (hr (d' + 3) W μ2 x hW g2.1) (fun μ3 g3 => ?_))
      rw [if_pos (rC_01 g3.1)]
      exact mwI_ret ⟨g3.1, fr_tr g.2 (fr_tr g2.2 g3.2)⟩
    exact mwI_rI (mwI_mono main (fun x μ' g => by rw [if_pos (rC_01 g.1)]; exact mwI_ret g))
  have ref : ∀ (d : Nat) (M H W : List Int) (o0 : Nat) (ρ : mj_M) (mn : Int) (o3 : Option mj_V) (Q : Int → mj_M → Prop), o = o0 + M.length → (∀ c, c ∈ M → c = 19) → (M ++ H).length + W.length ≤ p → topO H 7 → qQ ρ T z tc p (M ++ H) o W → (∀ ρ', fr (fQ tc) ρ ρ' → go1 T z tc o0 (19 :: M) H W ρ' d Q res1) → mwI (kd (d + 9) 93 1 [some (v_r 33 0), some (v_i 1), some (v_i mn), o3] [] ρ) Q := by
    intro d M H W o0 ρ mn o3 Q e hM hl ht hq hgo
    refine open_R d hz hp ho hl hq (Or.inl hc) (fun ρ' q' f' => ?_)
    rw [if_pos hc] at q' ⊢
    refine r1 d (19 :: M) H W o0 ρ' _ _ Q (by rw [List.length_cons]; omega) (fun c hcm => ?_) ?_ (by unfold mnO; rw [if_neg (by decide)]; exact fun _ => rfl) ht q' (hgo ρ' f')
    · rcases List.mem_cons.mp hcm with w | w
      · exact w
      · exact hM c w
    · have : (19 :: M ++ H).length = (M ++ H).length + 1 := rfl
      omega
  cases hres1 : res1 with
  | inl f =>
    rw [hres1] at cls ref
    refine ⟨.inl f, cls (.inl f) (fun d W μ1 x _ h => ?_), trivial, ?_⟩
    · exact mwV_mono (tellX d f _ h.2) (fun μ2 g => ⟨⟨h.1, g.1⟩, g.2⟩)
    · intro d M H W o0 ρ mn o3 Q e hM hl hm ht hq hgo
      exact ref d M H W o0 ρ mn o3 Q e hM hl ht hq (fun ρ' f' ρ'' h31 f'' => hgo ρ'' h31 (fr_tr f' f''))
  | inr v =>
    obtain ⟨q, R⟩ := v
    rw [hres1] at cls ref v1
    obtain ⟨w1, w2, w3, w4, w5⟩ := v1
    refine ⟨.inr (q, 19 :: R), cls (.inr (q, 19 :: R)) (fun d W μ1 x hW h => ?_), ⟨by rw [List.length_cons]; omega, by omega, w3, fun k rest hk hr => ?_, w5⟩, ?_⟩
    · exact mwV_mono (tellC d 19 (by rw [List.length_append]; omega) h.2) (fun μ2 g => ⟨⟨h.1, g.1⟩, g.2⟩)
    · have e : (19 :: R).reverse ++ rest = R.reverse ++ (19 :: rest) := by rw [List.reverse_cons, List.append_assoc]; rfl
      rw [e]
      have hd := dpt7 o
      refine w4 k (19 :: rest) (by omega) ⟨by unfold pCode; omega, ?_⟩
      rw [if_neg (by decide), if_neg (by decide), if_neg (by decide), if_pos rfl]
      exact ⟨by omega, hr⟩
    · intro d M H W o0 ρ mn o3 Q e hM hl hm ht hq hgo
      refine ref d M H W o0 ρ mn o3 Q e hM hl ht hq (fun ρ' f' ρ'' mn' o3' q'' l'' f'' => ?_)
      have ee : (19 :: M).reverse ++ (R ++ W) = M.reverse ++ ((19 :: R) ++ W) := by rw [List.reverse_cons, List.append_assoc]; rfl
      rw [ee] at q'' l''
      exact hgo ρ'' mn' o3' q'' l'' (fr_tr f' f'')
theorem onePar {T : Nat → Int} {z tc o p : Nat} (hz : z ≤ 160) (h6 : tc < 6) (hp : p ≤ z) (ho : o < 5) (hc : lK T z p = 40) (IH : Sub T z tc 1 (o + 1) (lE T z p)) (hlt : p < lE T z p) : One T z tc o p := by
  obtain ⟨res1, c1, v1, r1⟩ := IH
  have hEz := (lE_b (T := T) hp).2.1
  have hc45 : ¬ lK T z p = 45 := by rw [hc]; decide
  have cls : ∀ res : Res, (∀ (d : Nat) (W : List Int) (μ1 : mj_M) (x : Int), rC T z x μ1 res1 W → mwI (if x = 0 then (some (some (v_i 0), μ1)) else (mj_rI (kc (d + 5) 199 [v_r 14 0, v_i 41] μ1) fun x10 m11 => if x10 = 0 then (some (some (v_i 0), m11)) else (some (some (v_i 1), m11)))) (fun x' μ2 => rC T z x' μ2 res W ∧ fr fP μ1 μ2)) → dCl T z 206 o p (dep 7 o) res := by
    intro res hr d W μ hd hW h
    have hd7 := dep1 o ho
    have h7 := dep_7 1 (o + 1)
    obtain ⟨d', rfl⟩ : ∃ d', d = d' + 5 + 2 := ⟨d - 7, by omega⟩
    rw [ke206_0, h.1.2.2.1, hc, if_neg (by decide), if_pos rfl, ke207_0, if_pos (show (o : Int) < 5 from Int.ofNat_lt.mpr ho)]
    have main : mwI (mj_rV (kc (d' + 5) 208 [v_r 14 0] μ) fun m1 => if (40 : Int) = 40 then (mj_rI (kc (d' + 5) 201 [v_r 14 0, v_i (mj_w ((o : Int) + 1))] m1) fun x8 m9 => if x8 = 0 then (some (some (v_i 0), m9)) else (mj_rI (kc (d' + 5) 199 [v_r 14 0, v_i 41] m9) fun x10 m11 => if x10 = 0 then (some (some (v_i 0), m11)) else (some (some (v_i 1), m11)))) else (if (40 : Int) = 5 then (mj_rI (kc (d' + 5) 203 [v_r 14 0, v_i (mj_w ((o : Int) + 1))] m1) fun x5 m6 => mj_rV (kc (d' + 5) 200 [v_r 14 0, v_i (-40 - 1)] m6) fun m7 => if x5 = 0 ∨ x5 = 1 then (some (some (v_i x5), m7)) else (none)) else (mj_rI (kc (d' + 5) 206 [v_r 14 0, v_i (mj_w ((o : Int) + 1))] m1) fun x2 m3 => mj_rV (kc (d' + 5) 200 [v_r 14 0, v_i (-40 - 1)] m3) fun m4 => if x2 = 0 ∨ x2 = 1 then (some (some (v_i x2), m4)) else (none)))) (fun x μ' => rC T z x μ' res W ∧ fr fP μ μ') := by
      refine mwI_rV (mwV_mono (stepC (d' + 1) hz hp h) (fun μ1 g => ?_))
      rw [if_pos rfl, wk o (m := 5) ho (by decide)]
      refine mwI_rI (mwI_mono (c1 (d' + 5) W μ1 (by omega) (Nat.le_trans hW (Nat.le_of_lt hlt)) g.1) (fun x μ2 g2 => ?_))
      exact mwI_mono (hr d' W μ2 x g2.1) (fun x' μ3 g3 => ⟨g3.1, fr_tr g.2 (fr_tr g2.2 g3.2)⟩)
    exact mwI_rI (mwI_mono main (fun x μ' g => by rw [if_pos (rC_01 g.1)]; exact mwI_ret g))
  have ref : ∀ (d : Nat) (M H W : List Int) (o0 : Nat) (ρ : mj_M) (mn : Int) (o3 : Option mj_V) (Q : Int → mj_M → Prop), (M ++ H).length + W.length ≤ p → qQ ρ T z tc p (M ++ H) o W → (∀ ρ', fr (fQ tc) ρ ρ' → goX T z tc 1 (o + 1) (0 :: (M ++ H)) W ρ' d Q res1) → mwI (kd (d + 9) 93 1 [some (v_r 33 0), some (v_i 1), some (v_i mn), o3] [] ρ) Q := by
    intro d M H W o0 ρ mn o3 Q hl hq hgo
    refine open_R d hz hp ho hl hq (Or.inr hc) (fun ρ' q' f' => ?_)
    rw [if_neg hc45] at q' ⊢
    have hl0 : (0 :: (M ++ H)).length = (M ++ H).length + 1 := rfl
    exact r1 d (0 :: (M ++ H)) W ρ' _ _ Q (by omega) (by unfold mnO; rw [if_pos (by decide)]) (show rkS 0 < 1 by decide) q' (hgo ρ' f')
  cases hres1 : res1 with
  | inl f =>
    rw [hres1] at cls ref
    refine ⟨.inl f, cls (.inl f) (fun d W μ1 x h => ?_), trivial, ?_⟩
    · rw [if_pos h.1]; exact mwI_ret ⟨⟨rfl, h.2⟩, fr_rf⟩
    · intro d M H W o0 ρ mn o3 Q e hM hl hm ht hq hgo
      exact ref d M H W o0 ρ mn o3 Q hl hq (fun ρ' f' ρ'' h31 f'' => hgo ρ'' h31 (fr_tr f' f''))
  | inr v =>
    obtain ⟨q, R⟩ := v
    rw [hres1] at cls ref v1
    obtain ⟨w1, w2, w3, w4, w5⟩ := v1
    have hEq := lE_b (T := T) w3
    by_cases h41 : lK T z q = 41
    · have hneq : lS T z q ≠ z := fun w => by rw [lK_end w] at h41; exact absurd h41 (by decide)
      have hltq : q < lE T z q := Nat.lt_of_le_of_lt (lS_b (T := T) w3).1 (hEq.2.2 hneq)
      refine ⟨.inr (lE T z q, R), cls (.inr (lE T z q, R)) (fun d W μ1 x h => ?_), ⟨by omega, by omega, hEq.2.1, fun k rest hk hr => ?_, ⟨fun w => absurd w (by decide), fun w => absurd w (by decide), fun w => absurd w (by decide), fun w => absurd w (by decide)⟩⟩, ?_⟩
      · rw [h.1, if_neg n10]
        refine mwI_rI (mwI_mono (skipC d 41 hz w3 h.2) (fun y μ2 g => ?_))
        obtain ⟨g1, g2⟩ := g
        rcases g1 with ⟨-, rfl, g3⟩ | ⟨g3, -⟩
        · rw [if_neg n10]; exact mwI_ret ⟨⟨rfl, g3⟩, g2⟩
        · exact absurd h41 g3
      · exact w4 k rest (by rw [dpt1 o ho]; exact hk) hr
      · intro d M H W o0 ρ mn o3 Q e hM hl hm ht hq hgo
        refine ref d M H W o0 ρ mn o3 Q hl hq (fun ρ' f' => ?_)
        intro K R0 ρ2 mn' o3' hR hK hp4 hoK hq2 hl2 f2
        have hoK' : o0 + M.length + 1 + cntO K ≤ 5 := by omega
        rw [show o + 1 + cntO K = o0 + M.length + 1 + cntO K by omega] at hq2
        refine par_R d hz h6 w3 h41 hK hM ht hl2 hoK' hq2 (fun ρ3 mn3 o33 q3 l3 f3 => ?_)
        have ee : K.reverse ++ (R0 ++ W) = R ++ W := by rw [hR, List.append_assoc]
        rw [ee] at q3 l3
        exact hgo ρ3 mn3 o33 q3 l3 (fr_tr f' (fr_tr f2 f3))
    · refine ⟨.inl (lS T z q), cls (.inl (lS T z q)) (fun d W μ1 x h => ?_), trivial, ?_⟩
      · rw [h.1, if_neg n10]
        refine mwI_rI (mwI_mono (skipC d 41 hz w3 h.2) (fun y μ2 g => ?_))
        obtain ⟨g1, g2⟩ := g
        rcases g1 with ⟨g3, -⟩ | ⟨-, rfl, g3⟩
        · exact absurd g3 h41
        · rw [if_pos rfl]; exact mwI_ret ⟨⟨rfl, cQ_x g3⟩, g2⟩
      · intro d M H W o0 ρ mn o3 Q e hM hl hm ht hq hgo
        refine ref d M H W o0 ρ mn o3 Q hl hq (fun ρ' f' => ?_)
        intro K R0 ρ2 mn' o3' hR hK hp4 hoK hq2 hl2 f2
        exact nopar_R d hz h6 w3 h41 w5 hK hp4 hl2 hoK hq2 (fun ρ3 h31 f3 => hgo ρ3 h31 (fr_tr f' (fr_tr f2 f3)))
theorem oneOper {T : Nat → Int} {z tc o p : Nat} (hz : z ≤ 160) (h6 : tc < 6) (hp : p ≤ z) (ho : o ≤ 5) (hc : lK T z p = 13 ∨ (6 ≤ lK T z p ∧ lK T z p < 12)) (hlt : p < lE T z p) : One T z tc o p := by
  have hEz := (lE_b (T := T) hp).2.1
  refine ⟨.inr (lE T z p, [cdO T z p]), ?_, ⟨hlt, hlt, hEz, fun k rest hk hr => ?_, ⟨fun w => absurd w (by decide), fun w => absurd w (by decide), fun w => absurd w (by decide), fun w => absurd w (by decide)⟩⟩, ?_⟩
  · intro d W μ hd hW h
    have h7 := dep_7 7 o
    obtain ⟨d', rfl⟩ : ∃ d', d = d' + 4 + 1 := ⟨d - 5, by omega⟩
    have tok := h.1.2.2.1
    have hW160 : W.length < 160 := by omega
    have fin : mwI (mj_rV (kc (d' + 4) 200 [v_r 14 0, v_i (unc (cdO T z p))] μ) fun m1 => mj_rV (kc (d' + 4) 208 [v_r 14 0] m1) fun m2 => some (some (v_i 1), m2)) (fun x μ' => rC T z x μ' (.inr (lE T z p, [cdO T z p])) W ∧ fr fP μ μ') := by
      refine mwI_rV (mwV_mono (tellC (d' + 3) (cdO T z p) hW160 h) (fun μ1 g => ?_))
      refine mwI_rV (mwV_mono (stepC d' hz hp g.1) (fun μ2 g2 => ?_))
      exact mwI_ret ⟨⟨rfl, g2.1⟩, fr_tr g.2 g2.2⟩
    have hu : lK T z p = 13 → unc (cdO T z p) = lV T z p := fun w => by
      unfold cdO; rw [if_pos w, unc_num (lK_13 hp w).1]
    have hu2 : 6 ≤ lK T z p ∧ lK T z p < 12 → ¬ lK T z p = 13 → unc (cdO T z p) = -lK T z p - 1 := fun w w2 => by
      unfold cdO; rw [if_neg w2, unc_nam w]
    rw [ke206_0, tok]
    have three0 : lK T z p = 13 → mwI (kd (d' + 4) 206 3 [some (v_r 14 0), none, some (v_i 0)] [] μ) (fun x μ' => rC T z x μ' (.inr (lE T z p, [cdO T z p])) W ∧ fr fP μ μ') := by
      intro e
      rw [hu e, ← h.1.2.2.2 e] at fin
      rw [ke206_3, if_pos rfl]; exact fin
    rcases hc with e | e
    · rw [if_neg (show ¬ lK T z p = 45 by rw [e]; decide), if_neg (show ¬ lK T z p = 40 by rw [e]; decide), kc44, rI_some, tok, if_pos e, b01_f (by rw [e]; decide)]
      exact three0 e
    · have e13 : ¬ lK T z p = 13 := by omega
      have e45 : ¬ lK T z p = 45 := by omega
      have e40 : ¬ lK T z p = 40 := by omega
      rw [hu2 e e13] at fin
      rw [if_neg e45, if_neg e40, kc44, rI_some, tok, if_neg e13, b01_t (show 6 ≤ lK T z p ∧ lK T z p ≤ 11 by omega), if_neg n10, ke206_3, if_neg n10, tok]
      exact fin
  · show pOK (cdO T z p :: rest) k
    have hk32 : k < 32 := by unfold dpt at hk; omega
    unfold cdO
    rcases hc with e | e
    · have hb := lK_13 hp e
      rw [if_pos e]
      refine ⟨by unfold pCode; omega, ?_⟩
      rw [if_pos (by omega)]; exact ⟨hk32, hr⟩
    · have e13 : ¬ lK T z p = 13 := by omega
      rw [if_neg e13]
      refine ⟨by unfold pCode; omega, ?_⟩
      rw [if_neg (by omega), if_pos (by omega)]; exact ⟨hk32, hr⟩
  · intro d M H W o0 ρ mn o3 Q e hM hl hm ht hq hgo
    rw [e] at hq
    exact oper_R d hz h6 hp hM ht (by omega) hl hlt hq hc hgo
theorem oneBad {T : Nat → Int} {z tc o p : Nat} (hz : z ≤ 160) (hp : p ≤ z) (h45 : lK T z p ≠ 45) (h40 : lK T z p ≠ 40) (h13 : lK T z p ≠ 13) (hnm : ¬ (6 ≤ lK T z p ∧ lK T z p < 12)) : One T z tc o p := by
  refine ⟨.inl (lS T z p), ?_, trivial, ?_⟩
  · intro d W μ hd hW h
    have h7 := dep_7 7 o
    obtain ⟨d', rfl⟩ : ∃ d', d = d' + 2 := ⟨d - 2, by omega⟩
    have tok := h.1.2.2.1
    rw [ke206_0, tok, if_neg h45, if_neg h40, kc44, rI_some, tok, if_neg h13, b01_f (show ¬ (6 ≤ lK T z p ∧ lK T z p ≤ 11) by omega), if_pos rfl]
    exact mwI_ret ⟨⟨rfl, cQ_x h⟩, fr_rf⟩
  · intro d M H W o0 ρ mn o3 Q e hM hl hm ht hq hgo
    refine badW_R d hz hp hq h13 hnm ?_ h45 h40 hgo
    unfold mnO at hm
    rw [if_neg (by decide)] at hm
    exact hm
theorem oneSim {T : Nat → Int} {z tc o p : Nat} (hz : z ≤ 160) (h6 : tc < 6) (hp : p ≤ z) (ho : o ≤ 5) (IH7 : ∀ p' o', p < p' → p' ≤ z → o' ≤ 5 → One T z tc o' p') (IH1 : ∀ p' o', p < p' → p' ≤ z → o' ≤ 5 → Sub T z tc 1 o' p') : One T z tc o p := by
  have hE := lE_b (T := T) hp
  have hlt : lK T z p ≠ 14 → p < lE T z p := fun w => by
    have hne : lS T z p ≠ z := fun v => w (lK_end v)
    exact Nat.lt_of_le_of_lt (lS_b (T := T) hp).1 (hE.2.2 hne)
  by_cases q45 : lK T z p = 45
  · have hl := hlt (by rw [q45]; decide)
    by_cases q : o < 5
    · exact oneMinus hz hp q q45 (IH7 _ (o + 1) hl hE.2.1 q) hl
    · have : o = 5 := by omega
      rw [this]; exact oneFull hz hp (Or.inl q45)
  by_cases q40 : lK T z p = 40
  · have hl := hlt (by rw [q40]; decide)
    by_cases q : o < 5
    · exact onePar hz h6 hp q q40 (IH1 _ (o + 1) hl hE.2.1 q) hl
    · have : o = 5 := by omega
      rw [this]; exact oneFull hz hp (Or.inr q40)
  by_cases qo : lK T z p = 13 ∨ (6 ≤ lK T z p ∧ lK T z p < 12)
  · exact oneOper hz h6 hp ho qo (hlt (by omega))
  · exact oneBad hz hp q45 q40 (fun w => qo (Or.inl w)) (fun w => qo (Or.inr w))
