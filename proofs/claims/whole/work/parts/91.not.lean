/-! NOT, read alike -/
theorem opC (c : Int) (h : c = 60 ∨ c = 61) : lvS (sgn c) = 5 ∧ rkS (sgn c) = 4 ∧ sgn c ≠ -1 ∧ ¬ (sgn c = 13 ∨ sgn c = 19) ∧ (14 ≤ sgn c ∧ sgn c ≤ 18 ∨ 11 ≤ sgn c ∧ sgn c ≤ 12) ∧ 12 < sgn c ∧ unc (sgn c) = -c - 1 := by
  rcases h with e | e <;> rw [e] <;> decide
theorem topO_45 {H : List Int} (h : topO H 4) : topO H 5 ∧ noCmp H := by
  cases H with
  | nil => exact ⟨trivial, trivial⟩
  | cons c t =>
    have h' : rkS c < 4 := h
    exact ⟨show rkS c < 5 by omega, show rkS c ≠ 4 by omega⟩
theorem dep35 (o : Nat) : dep 3 o = dep 5 o + 1 ∧ dpt 3 o = dpt 5 o + 1 := ⟨rfl, rfl⟩
theorem notNot {T : Nat → Int} {z tc o p : Nat} (hz : z ≤ 160) (hp : p ≤ z) (ho : o < 5) (hc : lK T z p = 5) (IH : Sub T z tc 3 (o + 1) (lE T z p)) (hlt : p < lE T z p) : Sub T z tc 3 o p := by
  obtain ⟨res1, c1, v1, r1⟩ := IH
  have hEz := (lE_b (T := T) hp).2.1
  have cls : ∀ res : Res, (∀ (d : Nat) (W : List Int) (μ1 : mj_M) (x : Int), W.length ≤ p → rC T z x μ1 res1 W → mwV (kc (d + 1) 200 [v_r 14 0, v_i (-5 - 1)] μ1) (fun μ2 => rC T z x μ2 res W ∧ fr fP μ1 μ2)) → dCl T z 203 o p (dep 3 o) res := by
    intro res hr d W μ hd hW h
    have hd3 := dep3 o ho
    have h7 := dep_7 3 (o + 1)
    obtain ⟨d', rfl⟩ : ∃ d', d = d' + 4 + 2 := ⟨d - 6, by omega⟩
    rw [ke203_0, h.1.2.2.1, hc, if_pos rfl, ke207_0, if_pos (show (o : Int) < 5 from Int.ofNat_lt.mpr ho)]
    have main : mwI (mj_rV (kc (d' + 4) 208 [v_r 14 0] μ) fun m1 => if (5 : Int) = 40 then (mj_rI (kc (d' + 4) 201 [v_r 14 0, v_i (mj_w ((o : Int) + 1))] m1) fun x8 m9 => if x8 = 0 then (some (some (v_i 0), m9)) else (mj_rI (kc (d' + 4) 199 [v_r 14 0, v_i 41] m9) fun x10 m11 => if x10 = 0 then (some (some (v_i 0), m11)) else (some (some (v_i 1), m11)))) else (if (5 : Int) = 5 then (mj_rI (kc (d' + 4) 203 [v_r 14 0, v_i (mj_w ((o : Int) + 1))] m1) fun x5 m6 => mj_rV (kc (d' + 4) 200 [v_r 14 0, v_i (-5 - 1)] m6) fun m7 => if x5 = 0 ∨ x5 = 1 then (some (some (v_i x5), m7)) else (none)) else (mj_rI (kc (d' + 4) 206 [v_r 14 0, v_i (mj_w ((o : Int) + 1))] m1) fun x2 m3 => mj_rV (kc (d' + 4) 200 [v_r 14 0, v_i (-5 - 1)] m3) fun m4 => if x2 = 0 ∨ x2 = 1 then (some (some (v_i x2), m4)) else (none)))) (fun x μ' => rC T z x μ' res W ∧ fr fP μ μ') := by
      refine mwI_rV (mwV_mono (stepC d' hz hp h) (fun μ1 g => ?_))
      rw [if_neg (by decide), if_pos rfl, wk o (m := 5) ho (by decide)]
      refine mwI_rI (mwI_mono (c1 (d' + 4) W μ1 (by omega) (Nat.le_trans hW (Nat.le_of_lt hlt)) g.1) (fun x μ2 g2 => ?_))
      refine mwI_rV (mwV_mono (hr (d' + 3) W μ2 x hW g2.1) (fun μ3 g3 => ?_))
      rw [if_pos (rC_01 g3.1)]
      exact mwI_ret ⟨g3.1, fr_tr g.2 (fr_tr g2.2 g3.2)⟩
    exact mwI_rI (mwI_mono main (fun x μ' g => by rw [if_pos (rC_01 g.1)]; exact mwI_ret g))
  have ref : ∀ (d : Nat) (H W : List Int) (ρ : mj_M) (mn : Int) (o3 : Option mj_V) (Q : Int → mj_M → Prop), H.length + W.length ≤ p → mn = 1 → topO H 4 → qQ ρ T z tc p H o W → (∀ ρ', fr (fQ tc) ρ ρ' → goX T z tc 3 (o + 1) (13 :: H) W ρ' d Q res1) → mwI (kd (d + 9) 93 1 [some (v_r 33 0), some (v_i 1), some (v_i mn), o3] [] ρ) Q := by
    intro d H W ρ mn o3 Q hl hm ht hq hgo
    refine wants_R d hz hp hq (fun ρ1 g f => ?_)
    have hS200 : H.length < 200 := by omega
    rw [hc, if_neg (by decide), if_neg (by decide), if_pos (by decide), hm, if_neg (by decide)]
    refine mwI_rI (mwI_mono (kc90 (d + 7) tc 13 hS200 ho g.2.2) (fun x ρ2 j => ?_))
    obtain ⟨rfl, j1, j2⟩ := j
    rw [if_neg n10]
    exact r1 d (13 :: H) W ρ2 1 none Q (by rw [List.length_cons]; omega) rfl (show rkS 13 < 4 by decide) (aQ_q (aQ_u g j2 j1)) (hgo ρ2 (fr_tr f (fU_fQ j2)))
  cases hres1 : res1 with
  | inl f =>
    rw [hres1] at cls ref
    refine ⟨.inl f, cls (.inl f) (fun d W μ1 x _ h => ?_), trivial, ?_⟩
    · exact mwV_mono (tellX d f _ h.2) (fun μ2 g => ⟨⟨h.1, g.1⟩, g.2⟩)
    · intro d H W ρ mn o3 Q hl hm ht hq hgo
      exact ref d H W ρ mn o3 Q hl hm ht hq (fun ρ' f' ρ'' h31 f'' => hgo ρ'' h31 (fr_tr f' f''))
  | inr v =>
    obtain ⟨q, R⟩ := v
    rw [hres1] at cls ref v1
    obtain ⟨w1, w2, w3, w4, w5⟩ := v1
    refine ⟨.inr (q, 13 :: R), cls (.inr (q, 13 :: R)) (fun d W μ1 x hW h => ?_), ⟨by rw [List.length_cons]; omega, by omega, w3, fun k rest hk hr => ?_, w5⟩, ?_⟩
    · exact mwV_mono (tellC d 13 (by rw [List.length_append]; omega) h.2) (fun μ2 g => ⟨⟨h.1, g.1⟩, g.2⟩)
    · have e : (13 :: R).reverse ++ rest = R.reverse ++ (13 :: rest) := by rw [List.reverse_cons, List.append_assoc]; rfl
      rw [e]
      have hd := dpt3 o
      refine w4 k (13 :: rest) (by omega) ⟨by unfold pCode; omega, ?_⟩
      rw [if_neg (by decide), if_neg (by decide), if_pos rfl]
      exact ⟨by omega, hr⟩
    · intro d H W ρ mn o3 Q hl hm ht hq hgo
      refine ref d H W ρ mn o3 Q hl hm ht hq (fun ρ' f' => ?_)
      intro K R0 ρ'' mn' o3' hRK hK hp4 hoK q'' l'' f''
      have ek : (K ++ [13]) ++ H = K ++ 13 :: H := by rw [List.append_assoc]; rfl
      have ec : cntO (K ++ [13]) = cntO K + 1 := cntO_app2 K [13]
      have ec2 : o + cntO (K ++ [13]) = o + 1 + cntO K := by omega
      refine hgo (K ++ [13]) R0 ρ'' mn' o3' ?_ ?_ ?_ (by omega) ?_ ?_ (fr_tr f' f'')
      · rw [hRK, List.reverse_append]; rfl
      · intro c hcm
        rcases List.mem_append.mp hcm with w | w
        · exact hK c w
        · rw [List.mem_singleton.mp w]; decide
      · intro hL3 hcm
        obtain ⟨K1, c, K3, e1, e2, e3⟩ := hp4 hL3 hcm
        exact ⟨K1, c, K3 ++ [13], by rw [e1, List.append_assoc]; rfl, e2, e3⟩
      · rw [ek, ec2]; exact q''
      · rw [ek]; exact l''
theorem notFull {T : Nat → Int} {z tc p : Nat} (hz : z ≤ 160) (hp : p ≤ z) (hc : lK T z p = 5) : Sub T z tc 3 5 p := by
  refine ⟨.inl (lS T z p), ?_, trivial, ?_⟩
  · intro d W μ hd hW h
    have h7 := dep_7 3 5
    obtain ⟨d', rfl⟩ : ∃ d', d = d' + 2 := ⟨d - 2, by omega⟩
    have f5 : ¬ (((5 : Nat) : Int) < 5) := by decide
    show mwI (kc (d' + 2) 203 _ _) _
    rw [ke203_0, h.1.2.2.1, hc, if_pos rfl, ke207_0, if_neg f5, rI_some, if_pos (Or.inl rfl)]
    exact mwI_ret ⟨⟨rfl, cQ_x h⟩, fr_rf⟩
  · intro d H W ρ mn o3 Q hl hm ht hq hgo
    refine wants_R d hz hp hq (fun ρ1 g f => ?_)
    have h5 : ρ1 33 0 37 = 5 := g.2.2.2.2.1
    have hm1 : mn = 1 := hm
    rw [hc, if_neg (by decide), if_neg (by decide), if_pos (by decide), hm1, if_neg (by decide), kc90n (d + 8) 13 h5, rI_some, if_pos rfl]
    exact mwI_ret (hgo ρ1 g.2.1.2.1 f)
theorem notCmp {T : Nat → Int} {z tc o p : Nat} (hz : z ≤ 160) (h6 : tc < 6) (hc : lK T z p ≠ 5) (h0 : Sub T z tc 5 o p) (IH : ∀ p', p < p' → p' ≤ z → Sub T z tc 5 o p') : Sub T z tc 3 o p := by
  obtain ⟨res1, c1, v1, r1⟩ := h0
  have hdd := dep35 o
  have h75 := dep_7 5 o
  have hmn : ∀ mn, mnO T z 5 p mn := fun mn => by
    unfold mnO; rw [if_neg (by decide)]; exact fun w => absurd w hc
  have hm14 : mth 5 = 204 ∧ mth 3 = 203 := ⟨rfl, rfl⟩
  cases hres1 : res1 with
  | inl f =>
    rw [hres1] at c1 r1
    refine ⟨.inl f, ?_, trivial, ?_⟩
    · intro d W μ hd hW h
      obtain ⟨d', rfl⟩ : ∃ d', d = d' + 1 := ⟨d - 1, by omega⟩
      show mwI (kc (d' + 1) 203 _ _) _
      rw [ke203_0, h.1.2.2.1, if_neg hc]
      refine mwI_rI (mwI_mono (c1 d' W μ (by omega) hW h) (fun x μ2 g => ?_))
      obtain ⟨⟨rfl, hx⟩, f2⟩ := g
      rw [if_pos rfl, if_pos (Or.inl rfl)]
      exact mwI_ret ⟨⟨rfl, hx⟩, f2⟩
    · intro d H W ρ mn o3 Q hl hm ht hq hgo
      exact r1 d H W ρ mn o3 Q hl (hmn mn) (topO_45 ht).1 hq hgo
  | inr v =>
    obtain ⟨q1, R1⟩ := v
    rw [hres1] at c1 v1 r1
    obtain ⟨w1, w2, w3, w4, w5⟩ := v1
    by_cases hcm : isCm T z q1
    · obtain ⟨o1, o2, o3', o4, o5, o6, o7⟩ := opC _ hcm
      have hne : lS T z q1 ≠ z := fun w => o3' (by rw [lK_end w]; decide)
      have hE := lE_b (T := T) w3
      have hlt : q1 < lE T z q1 := Nat.lt_of_le_of_lt (lS_b (T := T) w3).1 (hE.2.2 hne)
      have hlz : lE T z q1 ≤ z := hE.2.1
      obtain ⟨res2, c2, v2, r2⟩ := IH (lE T z q1) (Nat.lt_trans w2 hlt) hlz
      have cls : ∀ res : Res, (∀ (d : Nat) (W : List Int) (μ1 : mj_M) (x : Int), W.length ≤ p → rC T z x μ1 res2 (R1 ++ W) → mwV (kc (d + 1) 200 [v_r 14 0, v_i (unc (sgn (lK T z q1)))] μ1) (fun μ2 => rC T z x μ2 res W ∧ fr fP μ1 μ2)) → dCl T z 203 o p (dep 3 o) res := by
        intro res hr d W μ hd hW h
        obtain ⟨d', rfl⟩ : ∃ d', d = d' + 4 + 1 := ⟨d - 5, by omega⟩
        rw [ke203_0, h.1.2.2.1, if_neg hc]
        refine mwI_rI (mwI_mono (c1 (d' + 4) W μ (by omega) hW h) (fun x μ2 g => ?_))
        obtain ⟨⟨rfl, hx⟩, f2⟩ := g
        have e2 : ∀ r : mj_R, (if μ2 14 0 7 = 60 then kd (d' + 4) 203 2 [some (v_r 14 0), some (v_i (o : Int)), some (v_i 1), some (v_i (μ2 14 0 7))] [] μ2 else (if μ2 14 0 7 = 61 then kd (d' + 4) 203 2 [some (v_r 14 0), some (v_i (o : Int)), some (v_i 1), some (v_i (μ2 14 0 7))] [] μ2 else r)) = kd (d' + 4) 203 2 [some (v_r 14 0), some (v_i (o : Int)), some (v_i 1), some (v_i (lK T z q1))] [] μ2 := by
          intro r
          rw [hx.1.2.2.1]
          rcases hcm with e | e
          · rw [if_pos e]
          · rw [if_neg (by rw [e]; decide), if_pos e]
        rw [if_neg n10, e2, ke203_2]
        refine mwI_rV (mwV_mono (stepC d' hz w3 hx) (fun μ3 g3 => ?_))
        have hWl : (R1 ++ W).length ≤ lE T z q1 := by rw [List.length_append]; omega
        refine mwI_rI (mwI_mono (c2 (d' + 4) (R1 ++ W) μ3 (by omega) hWl g3.1) (fun x μ4 g4 => ?_))
        rw [← o7]
        refine mwI_rV (mwV_mono (hr (d' + 3) W μ4 x hW g4.1) (fun μ5 g5 => ?_))
        rw [if_pos (rC_01 g5.1)]
        exact mwI_ret ⟨g5.1, fr_tr f2 (fr_tr g3.2 (fr_tr g4.2 g5.2))⟩
      have ref : ∀ (d : Nat) (H W : List Int) (ρ : mj_M) (mn : Int) (o3 : Option mj_V) (Q : Int → mj_M → Prop), H.length + W.length ≤ p → topO H 4 → qQ ρ T z tc p H o W → (∀ ρ', fr (fQ tc) ρ ρ' → goX T z tc 5 o (sgn (lK T z q1) :: H) (R1 ++ W) ρ' d Q res2) → mwI (kd (d + 9) 93 1 [some (v_r 33 0), some (v_i 1), some (v_i mn), o3] [] ρ) Q := by
        intro d H W ρ mn o3 Q hl ht hq hgo
        refine r1 d H W ρ mn o3 Q hl (hmn mn) (topO_45 ht).1 hq ?_
        intro K R0 ρ1 mn' o3'' hRK hK hp4 hoK hq1 hl1 f1
        refine sign_R d hz h6 w3 hl1 hoK hq1 o3' (fun c hcK => by rw [o1]; exact hK c hcK) (by rw [o1]; exact (topO_45 ht).1) (fun _ => (topO_45 ht).2) (fun ρ' q' l' f' => ?_)
        have hWW : K.reverse ++ (R0 ++ W) = R1 ++ W := by rw [hRK, List.append_assoc]
        rw [hWW] at q' l'
        refine r2 d (sgn (lK T z q1) :: H) (R1 ++ W) ρ' _ _ Q l' ?_ ?_ q' (hgo ρ' (fr_tr f1 f'))
        · unfold mnO
          rw [if_neg (by decide), if_pos o6]; exact fun _ => rfl
        · show rkS (sgn (lK T z q1)) < 5
          rw [o2]; decide
      cases hres2 : res2 with
      | inl f =>
        rw [hres2] at cls ref
        refine ⟨.inl f, cls (.inl f) (fun d W μ1 x _ h => ?_), trivial, ?_⟩
        · exact mwV_mono (tellX d f _ h.2) (fun μ2 g => ⟨⟨h.1, g.1⟩, g.2⟩)
        · intro d H W ρ mn o3 Q hl hm ht hq hgo
          exact ref d H W ρ mn o3 Q hl ht hq (fun ρ' f' ρ'' h31 f'' => hgo ρ'' h31 (fr_tr f' f''))
      | inr v =>
        obtain ⟨q2, R2⟩ := v
        rw [hres2] at cls ref v2
        obtain ⟨v21, v22, v23, v24, v25⟩ := v2
        have hRlen : (sgn (lK T z q1) :: (R2 ++ R1)).length = R2.length + R1.length + 1 := by rw [List.length_cons, List.length_append]
        have hq2z : q2 ≤ 160 := Nat.le_trans v23 hz
        refine ⟨.inr (q2, sgn (lK T z q1) :: (R2 ++ R1)), cls (.inr (q2, sgn (lK T z q1) :: (R2 ++ R1))) (fun d W μ1 x hW h => ?_), ⟨by rw [hRlen]; omega, by omega, v23, fun k rest hk hr => ?_, ⟨fun _ => v25.1 (by decide), fun _ => v25.2.1 (by decide), fun w => absurd w (by decide), fun w => absurd w (by decide)⟩⟩, ?_⟩
        · have e : sgn (lK T z q1) :: (R2 ++ (R1 ++ W)) = (sgn (lK T z q1) :: (R2 ++ R1)) ++ W := by rw [List.cons_append, List.append_assoc]
          have hW160 : (R2 ++ (R1 ++ W)).length < 160 := by rw [List.length_append, List.length_append]; omega
          refine mwV_mono (tellC d (sgn (lK T z q1)) hW160 h.2) (fun μ2 g => ⟨⟨h.1, ?_⟩, g.2⟩)
          rw [← e]; exact g.1
        · have e : (sgn (lK T z q1) :: (R2 ++ R1)).reverse ++ rest = R1.reverse ++ (R2.reverse ++ (sgn (lK T z q1) :: rest)) := by
            rw [List.reverse_cons, List.reverse_append, List.append_assoc, List.append_assoc]; rfl
          rw [e]
          exact w4 k _ (by omega) (v24 (k + 1) _ (by omega) (pOK_op o5 hr))
        · intro d H W ρ mn o3 Q hl hm ht hq hgo
          refine ref d H W ρ mn o3 Q hl ht hq (fun ρ' f' => ?_)
          intro K2 R02 ρ2 mn' o3'' hR2 hK2 hp2 ho2 hq2 hl2 f2
          have ek : (K2 ++ [sgn (lK T z q1)]) ++ H = K2 ++ sgn (lK T z q1) :: H := by rw [List.append_assoc]; rfl
          have ew : (R02 ++ R1) ++ W = R02 ++ (R1 ++ W) := List.append_assoc ..
          have ec := cntO_app K2 (sgn (lK T z q1)) o4
          refine hgo (K2 ++ [sgn (lK T z q1)]) (R02 ++ R1) ρ2 mn' o3'' ?_ ?_ ?_ ?_ ?_ ?_ (fr_tr f' f2)
          · rw [hR2, List.reverse_append]
            show _ = (sgn (lK T z q1) :: K2.reverse) ++ (R02 ++ R1)
            rw [List.cons_append, List.append_assoc]
          · intro c hcK
            rcases List.mem_append.mp hcK with w | w
            · have := hK2 c w
              show (3 : Int) ≤ _
              have h5 : (5 : Int) ≤ rkS c := this
              omega
            · rw [List.mem_singleton.mp w, o2]; decide
          · intro _ _
            exact ⟨K2, sgn (lK T z q1), [], rfl, hK2, o2⟩
          · rw [ec]; exact ho2
          · rw [ek, ew, ec]; exact hq2
          · rw [ek, ew]; exact hl2
    · refine ⟨.inr (q1, R1), ?_, ⟨w1, w2, w3, fun k rest hk hr => w4 k rest (by omega) hr, ⟨fun _ => w5.1 (by decide), fun _ => w5.2.1 (by decide), fun w => absurd w (by decide), fun w => absurd w (by decide)⟩⟩, ?_⟩
      · intro d W μ hd hW h
        obtain ⟨d', rfl⟩ : ∃ d', d = d' + 1 := ⟨d - 1, by omega⟩
        show mwI (kc (d' + 1) 203 _ _) _
        rw [ke203_0, h.1.2.2.1, if_neg hc]
        refine mwI_rI (mwI_mono (c1 d' W μ (by omega) hW h) (fun x μ2 g => ?_))
        obtain ⟨⟨rfl, hx⟩, f2⟩ := g
        rw [if_neg n10, hx.1.2.2.1, if_neg (fun w => hcm (Or.inl w)), if_neg (fun w => hcm (Or.inr w)), if_pos (Or.inr rfl)]
        exact mwI_ret ⟨⟨rfl, hx⟩, f2⟩
      · intro d H W ρ mn o3 Q hl hm ht hq hgo
        refine r1 d H W ρ mn o3 Q hl (hmn mn) (topO_45 ht).1 hq ?_
        intro K R0 ρ' mn' o3' hRK hK hp4 hoK q' l' f'
        exact hgo K R0 ρ' mn' o3' hRK (fun c hcK => by
          have h5 : (5 : Int) ≤ rkS c := hK c hcK
          show (3 : Int) ≤ _
          omega) (fun _ w => absurd w hcm) hoK q' l' f'
theorem notSim {T : Nat → Int} {z tc o p : Nat} (hz : z ≤ 160) (h6 : tc < 6) (hp : p ≤ z) (ho : o ≤ 5) (h0 : Sub T z tc 5 o p) (IH5 : ∀ p', p < p' → p' ≤ z → Sub T z tc 5 o p') (IH3 : ∀ p' o', p < p' → p' ≤ z → o' ≤ 5 → Sub T z tc 3 o' p') : Sub T z tc 3 o p := by
  by_cases hc : lK T z p = 5
  · have hE := lE_b (T := T) hp
    have hne : lS T z p ≠ z := fun v => absurd ((lK_end v).symm.trans hc) (by decide)
    have hlt : p < lE T z p := Nat.lt_of_le_of_lt (lS_b (T := T) hp).1 (hE.2.2 hne)
    by_cases q : o < 5
    · exact notNot hz hp q hc (IH3 _ (o + 1) hlt hE.2.1 q) hlt
    · have : o = 5 := by omega
      rw [this]; exact notFull hz hp hc
  · exact notCmp hz h6 hc h0 IH5
/-- all ways to read, at all places -/
theorem all_sim {T : Nat → Int} {z tc : Nat} (hz : z ≤ 160) (h6 : tc < 6) : ∀ (N p : Nat), z - p < N → p ≤ z → (∀ o, o ≤ 5 → One T z tc o p) ∧ (∀ o, o ≤ 5 → Sub T z tc 7 o p) ∧ (∀ o, o ≤ 5 → Sub T z tc 6 o p) ∧ (∀ o, o ≤ 5 → Sub T z tc 5 o p) ∧ (∀ o, o ≤ 5 → Sub T z tc 3 o p) ∧ (∀ o, o ≤ 5 → Sub T z tc 2 o p) ∧ (∀ o, o ≤ 5 → Sub T z tc 1 o p) := by
  intro N
  induction N with
  | zero => intro p h; exact absurd h (Nat.not_lt_zero _)
  | succ N ih =>
    intro p hN hp
    have IH := fun p' (h : p < p') (h' : p' ≤ z) => ih p' (by omega) h'
    have s0 : ∀ o, o ≤ 5 → One T z tc o p := fun o ho => oneSim hz h6 hp ho (fun p' o' h h' w => (IH p' h h').1 o' w) (fun p' o' h h' w => (IH p' h h').2.2.2.2.2.2 o' w)
    have s7 : ∀ o, o ≤ 5 → Sub T z tc 7 o p := fun o ho => One_sub ho (s0 o ho)
    have s6 : ∀ o, o ≤ 5 → Sub T z tc 6 o p := fun o ho => simTerm hz h6 (s7 o ho) (fun p' h h' => (IH p' h h').2.1 o ho)
    have s5 : ∀ o, o ≤ 5 → Sub T z tc 5 o p := fun o ho => simSum hz h6 (s6 o ho) (fun p' h h' => (IH p' h h').2.2.1 o ho)
    have s3 : ∀ o, o ≤ 5 → Sub T z tc 3 o p := fun o ho => notSim hz h6 hp ho (s5 o ho) (fun p' h h' => (IH p' h h').2.2.2.1 o ho) (fun p' o' h h' w => (IH p' h h').2.2.2.2.1 o' w)
    have s2 : ∀ o, o ≤ 5 → Sub T z tc 2 o p := fun o ho => simBoth hz h6 (s3 o ho) (fun p' h h' => (IH p' h h').2.2.2.2.1 o ho)
    have s1 : ∀ o, o ≤ 5 → Sub T z tc 1 o p := fun o ho => simEither hz h6 (s2 o ho) (fun p' h h' => (IH p' h h').2.2.2.2.2.1 o ho)
    exact ⟨s0, s7, s6, s5, s3, s2, s1⟩
