/-! one after another, by signs of one strength -/
def Sub (T : Nat → Int) (z tc L o p : Nat) : Prop := ∃ res : Res, dCl T z (mth L) o p (dep L o) res ∧ vRs T z L o p res ∧ dRX T z tc L o p res
theorem cntO_app (K : List Int) (s : Int) (h : ¬ (s = 13 ∨ s = 19)) : cntO (K ++ [s]) = cntO K := by
  induction K with
  | nil => exact if_neg h
  | cons c t ih =>
    show (if c = 13 ∨ c = 19 then cntO (t ++ [s]) + 1 else cntO (t ++ [s])) = if c = 13 ∨ c = 19 then cntO t + 1 else cntO t
    rw [ih]
/-- what is asked of a class's loop: isL tells its head, op its tokens -/
def isLoop (y' : Nat) (o : Nat) (op : Int → Prop) (isL : Nat → Int → Nat → mj_M → mj_R → Prop) : Prop :=
  (∀ d i μ r, isL d 1 i μ r → i < 160 → op (μ 14 0 7) → ∃ f : Int → mj_M → mj_R, r = mj_rV (kc d 208 [v_r 14 0] μ) (fun m1 => mj_rI (kc d y' [v_r 14 0, v_i (o : Int)] m1) (fun x2 m3 => mj_rV (kc d 200 [v_r 14 0, v_i (unc (sgn (μ 14 0 7)))] m3) (f x2))) ∧ ∀ x m, isL d x (i + 1) m (f x m)) ∧
  (∀ d i μ r, isL d 1 i μ r → ¬ op (μ 14 0 7) → r = some (some (v_i 1), μ)) ∧
  (∀ d i μ r, isL d 0 i μ r → r = some (some (v_i 0), μ))
def opOK (L L' : Nat) (op : Int → Prop) : Prop := ∀ c, op c → lvS (sgn c) = (L : Int) ∧ rkS (sgn c) = (L : Int) ∧ sgn c ≠ -1 ∧ ¬ (sgn c = 13 ∨ sgn c = 19) ∧ (14 ≤ sgn c ∧ sgn c ≤ 18 ∨ 11 ≤ sgn c ∧ sgn c ≤ 12) ∧ (L' ≤ 3 → sgn c ≤ 12) ∧ (¬ L' ≤ 3 → 12 < sgn c)
theorem pOK_op {s : Int} {rest : List Int} {k : Nat} (hs : 14 ≤ s ∧ s ≤ 18 ∨ 11 ≤ s ∧ s ≤ 12) (h : pOK rest (k + 1)) : pOK (s :: rest) (k + 1 + 1) := by
  refine ⟨by unfold pCode; omega, ?_⟩
  rw [if_neg (by omega), if_neg (by omega), if_neg (by omega), if_neg (by omega)]
  exact ⟨by omega, h⟩
theorem loopSim {T : Nat → Int} {z tc L L' o p y' : Nat} {op : Int → Prop} {isL : Nat → Int → Nat → mj_M → mj_R → Prop} (hz : z ≤ 160) (h6 : tc < 6) (hy : y' = mth L') (hl : isLoop y' o op isL) (hop : opOK L L' op) (hLL : L < L' ∧ (L : Int) < ctxL L' ∧ ctxL L = (L : Int) ∧ (L ≤ 3 ↔ L' ≤ 3)) (hdep : dep L o = dep L' o + 1) (hdpt : dpt L o = dpt L' o + 1) (hL4 : L ≠ 4) (hst : ∀ q, ¬ op (lK T z q) → stopT T z L' q → stopT T z L q)
    (IH : ∀ p', p < p' → p' ≤ z → Sub T z tc L' o p') :
    ∀ (N q1 : Nat) (R1 : List Int), z - q1 < N → p < q1 → q1 ≤ z → p + R1.length ≤ q1 → (∀ k rest, k + dpt L o ≤ 32 → pOK rest (k + 1) → pOK (R1.reverse ++ rest) k) → stopT T z L' q1 →
      ∃ res : Res, vRs T z L o p res ∧
        (∀ (d : Nat) (W : List Int) (μ : mj_M) (i : Nat) (r : mj_R), dep L' o ≤ d → W.length ≤ p → p + i ≤ q1 → cQ μ T z q1 (R1 ++ W) → isL d 1 i μ r → mwI r (fun x μ' => rC T z x μ' res W ∧ fr fP μ μ')) ∧
        (∀ (d : Nat) (H W : List Int) (ρ0 ρ : mj_M) (mn : Int) (o3 : Option mj_V) (Q : Int → mj_M → Prop) (K R0 : List Int), topO H (L : Int) → goX T z tc L o H W ρ0 d Q res → R1 = K.reverse ++ R0 → (∀ c, c ∈ K → (L : Int) ≤ rkS c) → p4 T z L q1 K → o + cntO K ≤ 5 → qQ ρ T z tc q1 (K ++ H) (o + cntO K) (R0 ++ W) → (K ++ H).length + (R0 ++ W).length ≤ q1 → fr (fQ tc) ρ0 ρ → mwI (kd (d + 9) 93 1 [some (v_r 33 0), some (v_i 0), some (v_i mn), o3] [] ρ) Q) := by
  obtain ⟨l1, l2, l3⟩ := hl
  intro N
  induction N with
  | zero => intro q1 R1 h; exact absurd h (Nat.not_lt_zero _)
  | succ N ihN =>
    intro q1 R1 hN hpq hqz hR hP hst1
    have hE := lE_b (T := T) hqz
    by_cases hopq : op (lK T z q1)
    · obtain ⟨o1, o2, o3', o4, o5, o6, o7⟩ := hop _ hopq
      have hne : lS T z q1 ≠ z := fun w => o3' (by rw [lK_end w]; decide)
      have hlt : q1 < lE T z q1 := Nat.lt_of_le_of_lt (lS_b (T := T) hqz).1 (hE.2.2 hne)
      have hlz : lE T z q1 ≤ z := hE.2.1
      have hq160 : q1 < 160 := Nat.lt_of_lt_of_le hlt (Nat.le_trans hlz hz)
      obtain ⟨res2, c2, v2, r2⟩ := IH (lE T z q1) (Nat.lt_trans hpq hlt) hlz
      have signs : ∀ (d : Nat) (H W : List Int) (ρ0 ρ : mj_M) (mn : Int) (o3 : Option mj_V) (Q : Int → mj_M → Prop) (K R0 : List Int), topO H (L : Int) → R1 = K.reverse ++ R0 → (∀ c, c ∈ K → (L : Int) ≤ rkS c) → o + cntO K ≤ 5 → qQ ρ T z tc q1 (K ++ H) (o + cntO K) (R0 ++ W) → (K ++ H).length + (R0 ++ W).length ≤ q1 → (∀ ρ', fr (fQ tc) ρ ρ' → goX T z tc L' o (sgn (lK T z q1) :: H) (R1 ++ W) ρ' d Q res2) → mwI (kd (d + 9) 93 1 [some (v_r 33 0), some (v_i 0), some (v_i mn), o3] [] ρ) Q := by
        intro d H W ρ0 ρ mn o3 Q K R0 hH hRK hK hoK hq hlen hgo
        refine sign_R d hz h6 hqz hlen hoK hq o3' (fun c hc => by rw [o1]; exact hK c hc) (by rw [o1]; exact hH) (fun w => by rw [o2] at w; exact absurd w (by omega)) (fun ρ' q' l' f' => ?_)
        have hWW : K.reverse ++ (R0 ++ W) = R1 ++ W := by rw [hRK, List.append_assoc]
        rw [hWW] at q' l'
        refine r2 d (sgn (lK T z q1) :: H) (R1 ++ W) ρ' _ _ Q l' ?_ ?_ q' (hgo ρ' f')
        · unfold mnO
          by_cases w : L' ≤ 3
          · rw [if_pos w, if_neg (Int.not_lt.mpr (o6 w))]
          · rw [if_neg w, if_pos (o7 w)]; exact fun _ => rfl
        · show rkS (sgn (lK T z q1)) < ctxL L'
          rw [o2]; exact hLL.2.1
      cases hres2 : res2 with
      | inl f =>
        rw [hres2] at c2 signs
        refine ⟨.inl f, trivial, ?_, ?_⟩
        · intro d W μ i r hd hW hi hc hr
          have htok : μ 14 0 7 = lK T z q1 := hc.1.2.2.1
          obtain ⟨g, rfl, hg⟩ := l1 d i μ r hr (by omega) (by rw [htok]; exact hopq)
          have hd4 : ∃ d', d = d' + 4 := ⟨d - 4, by unfold dep at hd; omega⟩
          obtain ⟨d', rfl⟩ := hd4
          refine mwI_rV (mwV_mono (stepC d' hz hqz hc) (fun μ1 g1 => ?_))
          have hWl : (R1 ++ W).length ≤ lE T z q1 := by rw [List.length_append]; omega
          refine mwI_rI (mwI_mono (hy ▸ c2 (d' + 4) (R1 ++ W) μ1 hd hWl g1.1) (fun x μ2 g2 => ?_))
          obtain ⟨⟨rfl, hx⟩, f2⟩ := g2
          refine mwI_rV (mwV_mono (tellX (d' + 3) f _ hx) (fun μ3 g3 => ?_))
          rw [l3 _ _ _ _ (hg 0 μ3)]
          exact mwI_ret ⟨⟨rfl, g3.1⟩, fr_tr g1.2 (fr_tr f2 g3.2)⟩
        · intro d H W ρ0 ρ mn o3 Q K R0 hH hgo hRK hK _ hoK hq hlen hf
          exact signs d H W ρ0 ρ mn o3 Q K R0 hH hRK hK hoK hq hlen (fun ρ' f' ρ'' h31 f'' => hgo ρ'' h31 (fr_tr hf (fr_tr f' f'')))
      | inr v =>
        obtain ⟨q2, R2⟩ := v
        rw [hres2] at c2 v2 signs
        obtain ⟨v21, v22, v23, v24, v25⟩ := v2
        have hRlen : (sgn (lK T z q1) :: (R2 ++ R1)).length = R2.length + R1.length + 1 := by rw [List.length_cons, List.length_append]
        obtain ⟨res, a1, a2, a3⟩ := ihN q2 (sgn (lK T z q1) :: (R2 ++ R1)) (by omega) (by omega) v23 (by rw [hRlen]; omega) (fun k rest hk hr => by
          have e : (sgn (lK T z q1) :: (R2 ++ R1)).reverse ++ rest = R1.reverse ++ (R2.reverse ++ (sgn (lK T z q1) :: rest)) := by
            rw [List.reverse_cons, List.reverse_append, List.append_assoc, List.append_assoc]; rfl
          rw [e]
          exact hP k _ hk (v24 (k + 1) _ (by omega) (pOK_op o5 hr))) v25
        refine ⟨res, a1, ?_, ?_⟩
        · intro d W μ i r hd hW hi hc hr
          have htok : μ 14 0 7 = lK T z q1 := hc.1.2.2.1
          obtain ⟨g, rfl, hg⟩ := l1 d i μ r hr (by omega) (by rw [htok]; exact hopq)
          have hd4 : ∃ d', d = d' + 4 := ⟨d - 4, by unfold dep at hd; omega⟩
          obtain ⟨d', rfl⟩ := hd4
          refine mwI_rV (mwV_mono (stepC d' hz hqz hc) (fun μ1 g1 => ?_))
          have hWl : (R1 ++ W).length ≤ lE T z q1 := by rw [List.length_append]; omega
          refine mwI_rI (mwI_mono (hy ▸ c2 (d' + 4) (R1 ++ W) μ1 hd hWl g1.1) (fun x μ2 g2 => ?_))
          obtain ⟨⟨rfl, hx⟩, f2⟩ := g2
          have hW160 : (R2 ++ (R1 ++ W)).length < 160 := by rw [List.length_append, List.length_append]; omega
          rw [htok]
          refine mwI_rV (mwV_mono (tellC (d' + 3) (sgn (lK T z q1)) hW160 hx) (fun μ3 g3 => ?_))
          have e : sgn (lK T z q1) :: (R2 ++ (R1 ++ W)) = (sgn (lK T z q1) :: (R2 ++ R1)) ++ W := by rw [List.cons_append, List.append_assoc]
          have g31 := g3.1
          rw [e] at g31
          exact mwI_mono (a2 (d' + 4) W μ3 (i + 1) _ hd hW (by omega) g31 (hg 1 μ3)) (fun x μ' k => ⟨k.1, fr_tr g1.2 (fr_tr f2 (fr_tr g3.2 k.2))⟩)
        · intro d H W ρ0 ρ mn o3 Q K R0 hH hgo hRK hK _ hoK hq hlen hf
          refine signs d H W ρ0 ρ mn o3 Q K R0 hH hRK hK hoK hq hlen (fun ρ' f' => ?_)
          intro K2 R02 ρ2 mn' o3'' hR2 hK2 hp2 ho2 hq2 hl2 f2
          have ek : (K2 ++ [sgn (lK T z q1)]) ++ H = K2 ++ sgn (lK T z q1) :: H := by rw [List.append_assoc]; rfl
          have ew : (R02 ++ R1) ++ W = R02 ++ (R1 ++ W) := List.append_assoc ..
          have ec := cntO_app K2 (sgn (lK T z q1)) o4
          refine a3 d H W ρ0 ρ2 mn' o3'' Q (K2 ++ [sgn (lK T z q1)]) (R02 ++ R1) hH hgo ?_ ?_ ?_ ?_ ?_ ?_ (fr_tr hf (fr_tr f' f2))
          · rw [hR2, List.reverse_append]
            show _ = (sgn (lK T z q1) :: K2.reverse) ++ (R02 ++ R1)
            rw [List.cons_append, List.append_assoc]
          · intro c hc
            rcases List.mem_append.mp hc with w | w
            · have := hK2 c w
              have hLi : (L : Int) < (L' : Int) := Int.ofNat_lt.mpr hLL.1
              omega
            · rw [List.mem_singleton.mp w, o2]; exact Int.le_refl _
          · intro hL3 hcm
            obtain ⟨K1, c, K3, e1, e2, e3⟩ := hp2 (hLL.2.2.2.mp hL3) hcm
            exact ⟨K1, c, K3 ++ [sgn (lK T z q1)], by rw [e1, List.append_assoc]; rfl, e2, e3⟩
          · rw [ec]; exact ho2
          · rw [ek, ew, ec]; exact hq2
          · rw [ek, ew]; exact hl2
    · refine ⟨.inr (q1, R1), ⟨hR, hpq, hqz, hP, hst q1 hopq hst1⟩, ?_, ?_⟩
      · intro d W μ i r hd hW hi hc hr
        rw [l2 d i μ r hr (by rw [hc.1.2.2.1]; exact hopq)]
        exact mwI_ret ⟨⟨rfl, hc⟩, fr_rf⟩
      · intro d H W ρ0 ρ mn o3 Q K R0 hH hgo hRK hK hp hoK hq hlen hf
        exact hgo K R0 ρ mn o3 hRK hK hp hoK hq hlen hf
/-- the whole of it: a first one, then the loop -/
theorem binSim {T : Nat → Int} {z tc L L' o p y : Nat} {op : Int → Prop} {isL : Nat → Int → Nat → mj_M → mj_R → Prop} (hz : z ≤ 160) (h6 : tc < 6) (hy : y = mth L) (hl : isLoop (mth L') o op isL) (hop : opOK L L' op) (hLL : L < L' ∧ (L : Int) < ctxL L' ∧ ctxL L = (L : Int) ∧ (L ≤ 3 ↔ L' ≤ 3)) (hctx : ctxL L ≤ ctxL L') (hdep : dep L o = dep L' o + 1) (hdpt : dpt L o = dpt L' o + 1) (hL4 : L ≠ 4) (hst : ∀ q, ¬ op (lK T z q) → stopT T z L' q → stopT T z L q)
    (hent : ∀ d μ, ∃ f : Int → mj_M → mj_R, kc (d + 1) y [v_r 14 0, v_i (o : Int)] μ = mj_rI (kc d (mth L') [v_r 14 0, v_i (o : Int)] μ) f ∧ ∀ x m, isL d x 0 m (f x m))
    (h0 : Sub T z tc L' o p) (IH : ∀ p', p < p' → p' ≤ z → Sub T z tc L' o p') : Sub T z tc L o p := by
  obtain ⟨res1, c1, v1, r1⟩ := h0
  have hmn : ∀ mn, mnO T z L p mn → mnO T z L' p mn := by
    intro mn h
    unfold mnO at h ⊢
    by_cases w : L ≤ 3
    · rw [if_pos w] at h; rw [if_pos (hLL.2.2.2.mp w)]; exact h
    · rw [if_neg w] at h; rw [if_neg (fun v => w (hLL.2.2.2.mpr v))]; exact h
  have htop : ∀ H, topO H (ctxL L) → topO H (ctxL L') := by
    intro H h
    cases H with
    | nil => trivial
    | cons c t => exact Int.lt_of_lt_of_le h hctx
  cases hres1 : res1 with
  | inl f =>
    rw [hres1] at c1 r1
    refine ⟨.inl f, ?_, trivial, ?_⟩
    · intro d W μ hd hW hc
      obtain ⟨d', rfl⟩ : ∃ d', d = d' + 1 := ⟨d - 1, by omega⟩
      obtain ⟨f', e, hf'⟩ := hent d' μ
      rw [← hy, e]
      refine mwI_rI (mwI_mono (c1 d' W μ (by omega) hW hc) (fun x μ2 g => ?_))
      obtain ⟨⟨rfl, hx⟩, f2⟩ := g
      rw [hl.2.2 _ _ _ _ (hf' 0 μ2)]
      exact mwI_ret ⟨⟨rfl, hx⟩, f2⟩
    · intro d H W ρ mn o3 Q hlen hm ht hq hgo
      exact r1 d H W ρ mn o3 Q hlen (hmn mn hm) (htop H ht) hq hgo
  | inr v =>
    obtain ⟨q1, R1⟩ := v
    rw [hres1] at c1 v1 r1
    obtain ⟨w1, w2, w3, w4, w5⟩ := v1
    obtain ⟨res, a1, a2, a3⟩ := loopSim hz h6 rfl hl hop hLL hdep hdpt hL4 hst IH (z - q1 + 1) q1 R1 (Nat.lt_succ_self _) w2 w3 w1 (fun k rest hk hr => w4 k rest (by omega) hr) w5
    refine ⟨res, ?_, a1, ?_⟩
    · intro d W μ hd hW hc
      obtain ⟨d', rfl⟩ : ∃ d', d = d' + 1 := ⟨d - 1, by omega⟩
      obtain ⟨f', e, hf'⟩ := hent d' μ
      rw [← hy, e]
      refine mwI_rI (mwI_mono (c1 d' W μ (by omega) hW hc) (fun x μ2 g => ?_))
      obtain ⟨⟨rfl, hx⟩, f2⟩ := g
      exact mwI_mono (a2 d' W μ2 0 _ (by omega) hW (Nat.le_of_lt w2) hx (hf' 1 μ2)) (fun x μ' k => ⟨k.1, fr_tr f2 k.2⟩)
    · intro d H W ρ mn o3 Q hlen hm ht hq hgo
      refine r1 d H W ρ mn o3 Q hlen (hmn mn hm) (htop H ht) hq ?_
      intro K R0 ρ' mn' o3' hRK hK hp hoK hq' hl' f'
      rw [hLL.2.2.1] at ht
      refine a3 d H W ρ ρ' mn' o3' Q K R0 ht hgo hRK (fun c hc => ?_) (fun hL3 hcm => hp (hLL.2.2.2.mp hL3) hcm) hoK hq' hl' f'
      have := hK c hc
      have hLi : (L : Int) < (L' : Int) := Int.ofNat_lt.mpr hLL.1
      omega
