/-! ONE: a number, a name, - ONE, ( E ) -/
theorem cnt19 : ∀ {M : List Int}, (∀ c, c ∈ M → c = 19) → cntO M = M.length
  | [], _ => rfl
  | c :: t, h => by
    have e := h c (List.mem_cons_self ..)
    show (if c = 13 ∨ c = 19 then cntO t + 1 else cntO t) = t.length + 1
    rw [if_pos (Or.inr e), cnt19 (fun x hx => h x (List.mem_cons_of_mem _ hx))]
theorem cntO_app2 : ∀ (A B : List Int), cntO (A ++ B) = cntO A + cntO B
  | [], B => (Nat.zero_add _).symm
  | c :: t, B => by
    show (if c = 13 ∨ c = 19 then cntO (t ++ B) + 1 else cntO (t ++ B)) = (if c = 13 ∨ c = 19 then cntO t + 1 else cntO t) + cntO B
    rw [cntO_app2 t B]
    split <;> omega
theorem rC_01 {T : Nat → Int} {z : Nat} {x : Int} {μ : mj_M} {res : Res} {W : List Int} (h : rC T z x μ res W) : x = 0 ∨ x = 1 := by
  cases res with
  | inl f => exact Or.inl h.1
  | inr v => exact Or.inr h.1
/-- the code of a number or a name -/
noncomputable def cdO (T : Nat → Int) (z p : Nat) : Int := if lK T z p = 13 then 100000 + lV T z p else lK T z p - 6
theorem wants_R (d : Nat) {T : Nat → Int} {z tc p o : Nat} {S W : List Int} {ρ : mj_M} {mn : Int} {o3 : Option mj_V} {Q : Int → mj_M → Prop} (hz : z ≤ 160) (hp : p ≤ z) (h : qQ ρ T z tc p S o W)
    (k : ∀ ρ1 : mj_M, aQ ρ1 T z tc p S o W → fr (fQ tc) ρ ρ1 → mwI (if rt (lK T z p) = 1 then kd (d + 9) 93 2 [some (v_r 33 0), some (v_i 1), some (v_i mn), none] [] ρ1 else (if rt (lK T z p) = 2 then kd (d + 9) 93 2 [some (v_r 33 0), some (v_i 1), some (v_i mn), none] [] ρ1 else (if rt (lK T z p) = 6 then (if mn = 0 then kd (d + 9) 93 6 [some (v_r 33 0), some (v_i 1), some (v_i mn), none] [] ρ1 else (mj_rI (kc (d + 9) 90 [v_r 33 0, v_i 13] ρ1) fun x9 m10 => if x9 = 0 then (some (some (v_i 0), m10)) else (kd (d + 9) 93 1 [some (v_r 33 0), some (v_i 1), some (v_i mn), none] [] m10))) else kd (d + 9) 93 6 [some (v_r 33 0), some (v_i 1), some (v_i mn), none] [] ρ1))) Q) :
    mwI (kd (d + 9) 93 1 [some (v_r 33 0), some (v_i 1), some (v_i mn), o3] [] ρ) Q := by
  rw [ke93_1]
  refine mwI_rV (mwV_mono (nextR (d + 7) hz hp h) (fun ρ1 g => ?_))
  rw [if_neg n10, g.1.2.1.2.2.1]
  exact k ρ1 g.1 g.2
/-- a token with which no ONE begins -/
theorem badW_R (d : Nat) {T : Nat → Int} {z tc p o : Nat} {S W : List Int} {ρ : mj_M} {mn : Int} {o3 : Option mj_V} {Q : Int → mj_M → Prop} (hz : z ≤ 160) (hp : p ≤ z) (h : qQ ρ T z tc p S o W) (h13 : lK T z p ≠ 13) (hnm : ¬ (6 ≤ lK T z p ∧ lK T z p < 12)) (h5 : lK T z p = 5 → mn = 0) (h45 : lK T z p ≠ 45) (h40 : lK T z p ≠ 40) (k : ∀ ρ' : mj_M, ρ' 33 0 31 = (lS T z p : Int) → fr (fQ tc) ρ ρ' → Q 0 ρ') :
    mwI (kd (d + 9) 93 1 [some (v_r 33 0), some (v_i 1), some (v_i mn), o3] [] ρ) Q := by
  refine wants_R d hz hp h (fun ρ1 g f => ?_)
  obtain ⟨⟨i13, inm, i5, i45, i40, -, -⟩, -⟩ := rt_i (lK_tk T z p)
  have six : mwI (kd (d + 9) 93 6 [some (v_r 33 0), some (v_i 1), some (v_i mn), none] [] ρ1) Q := by
    rw [ke93_6, g.2.1.2.2.1, if_neg (fun w => h45 (i45.1 w)), if_neg (fun w => h40 (i40.1 w))]
    exact mwI_ret (k ρ1 g.2.1.2.1 f)
  rw [if_neg (fun w => h13 (i13.1 w)), if_neg (fun w => hnm (inm.1 w))]
  by_cases q : rt (lK T z p) = 6
  · rw [if_pos q, if_pos (h5 (i5.1 q))]; exact six
  · rw [if_neg q]; exact six
/-- - or ( with five open -/
theorem full_R (d : Nat) {T : Nat → Int} {z tc p : Nat} {S W : List Int} {ρ : mj_M} {mn : Int} {o3 : Option mj_V} {Q : Int → mj_M → Prop} (hz : z ≤ 160) (hp : p ≤ z) (h : qQ ρ T z tc p S 5 W) (hc : lK T z p = 45 ∨ lK T z p = 40) (k : ∀ ρ' : mj_M, ρ' 33 0 31 = (lS T z p : Int) → fr (fQ tc) ρ ρ' → Q 0 ρ') :
    mwI (kd (d + 9) 93 1 [some (v_r 33 0), some (v_i 1), some (v_i mn), o3] [] ρ) Q := by
  refine wants_R d hz hp h (fun ρ1 g f => ?_)
  have h5 : ρ1 33 0 37 = 5 := g.2.2.2.2.1
  have six : mwI (kd (d + 9) 93 6 [some (v_r 33 0), some (v_i 1), some (v_i mn), none] [] ρ1) Q := by
    rw [ke93_6, g.2.1.2.2.1, kc90n (d + 8) 19 h5, kc90n (d + 8) 0 h5, rI_some, rI_some]
    rcases hc with e | e
    · rw [e, if_pos (by decide), if_pos rfl]; exact mwI_ret (k ρ1 g.2.1.2.1 f)
    · rw [e, if_neg (by decide), if_pos (by decide), if_pos rfl]; exact mwI_ret (k ρ1 g.2.1.2.1 f)
  rcases hc with e | e
  · rw [e, if_neg (by decide), if_neg (by decide), if_neg (by decide)]; exact six
  · rw [e, if_neg (by decide), if_neg (by decide), if_neg (by decide)]; exact six
/-- - or ( : it waits on the pile -/
theorem open_R (d : Nat) {T : Nat → Int} {z tc p o : Nat} {S W : List Int} {ρ : mj_M} {mn : Int} {o3 : Option mj_V} {Q : Int → mj_M → Prop} (hz : z ≤ 160) (hp : p ≤ z) (ho : o < 5) (hS : S.length + W.length ≤ p) (h : qQ ρ T z tc p S o W) (hc : lK T z p = 45 ∨ lK T z p = 40)
    (k : ∀ ρ' : mj_M, qQ ρ' T z tc (lE T z p) ((if lK T z p = 45 then 19 else 0) :: S) (o + 1) W → fr (fQ tc) ρ ρ' → mwI (kd (d + 9) 93 1 [some (v_r 33 0), some (v_i 1), some (v_i (if lK T z p = 45 then 0 else 1)), none] [] ρ') Q) :
    mwI (kd (d + 9) 93 1 [some (v_r 33 0), some (v_i 1), some (v_i mn), o3] [] ρ) Q := by
  refine wants_R d hz hp h (fun ρ1 g f => ?_)
  have hS200 : S.length < 200 := by omega
  have six : mwI (kd (d + 9) 93 6 [some (v_r 33 0), some (v_i 1), some (v_i mn), none] [] ρ1) Q := by
    rw [ke93_6, g.2.1.2.2.1]
    rcases hc with e | e
    · rw [if_pos e, if_pos e] at k
      rw [e, if_pos (by decide)]
      refine mwI_rI (mwI_mono (kc90 (d + 7) tc 19 hS200 ho g.2.2) (fun x ρ2 j => ?_))
      obtain ⟨rfl, j1, j2⟩ := j
      rw [if_neg n10]
      exact k ρ2 (aQ_q (aQ_u g j2 j1)) (fr_tr f (fU_fQ j2))
    · have e' : ¬ lK T z p = 45 := by rw [e]; decide
      rw [if_neg e', if_neg e'] at k
      rw [e, if_neg (by decide), if_pos (by decide)]
      refine mwI_rI (mwI_mono (kc90 (d + 7) tc 0 hS200 ho g.2.2) (fun x ρ2 j => ?_))
      obtain ⟨rfl, j1, j2⟩ := j
      rw [if_neg n10]
      exact k ρ2 (aQ_q (aQ_u g j2 j1)) (fr_tr f (fU_fQ j2))
  rcases hc with e | e
  · rw [e, if_neg (by decide), if_neg (by decide), if_neg (by decide)]; exact six
  · rw [e, if_neg (by decide), if_neg (by decide), if_neg (by decide)]; exact six
theorem w100k (v : Int) (h : 0 ≤ v ∧ v ≤ 9999) : mj_w (100000 + v) = 100000 + v := wi (by omega) (by omega)
/-- a number or a name -/
theorem oper_R (d : Nat) {T : Nat → Int} {z tc p o0 : Nat} {M H W : List Int} {ρ : mj_M} {mn : Int} {o3 : Option mj_V} {Q : Int → mj_M → Prop} (hz : z ≤ 160) (h6 : tc < 6) (hp : p ≤ z) (hM : ∀ c, c ∈ M → c = 19) (hH : topO H 7) (ho : o0 + M.length ≤ 5) (hS : (M ++ H).length + W.length ≤ p) (hlt : p < lE T z p) (h : qQ ρ T z tc p (M ++ H) (o0 + M.length) W) (hc : lK T z p = 13 ∨ (6 ≤ lK T z p ∧ lK T z p < 12))
    (k : ∀ (ρ' : mj_M) (mn' : Int) (o3' : Option mj_V), qQ ρ' T z tc (lE T z p) H o0 (M.reverse ++ ([cdO T z p] ++ W)) → H.length + (M.reverse ++ ([cdO T z p] ++ W)).length ≤ lE T z p → fr (fQ tc) ρ ρ' → mwI (kd (d + 9) 93 1 [some (v_r 33 0), some (v_i 0), some (v_i mn'), o3'] [] ρ') Q) :
    mwI (kd (d + 9) 93 1 [some (v_r 33 0), some (v_i 1), some (v_i mn), o3] [] ρ) Q := by
  refine wants_R d hz hp h (fun ρ1 g f => ?_)
  obtain ⟨⟨i13, inm, -⟩, -⟩ := rt_i (lK_tk T z p)
  have hlE : lE T z p ≤ 160 := Nat.le_trans (lE_b (T := T) hp).2.1 hz
  have hW200 : W.length < 200 := by omega
  have fin : mwI (mj_rV (kc (d + 9) 87 [v_r 33 0, v_i (cdO T z p)] ρ1) fun m3 => mj_rV (kc (d + 9) 88 [v_r 33 0, v_i 7] m3) fun m4 => kd (d + 9) 93 1 [some (v_r 33 0), some (v_i 0), some (v_i mn), none] [] m4) Q := by
    refine mwI_rV (mwV_mono (kc87 (d + 8) tc h6 (cdO T z p) g.1.2.2.2 hW200 g.2.2) (fun ρ2 j => ?_))
    obtain ⟨j1, j2⟩ := j
    rw [← cnt19 hM] at j1
    have hl2 : (M ++ H).length + (cdO T z p :: W).length ≤ 160 := by rw [List.length_cons]; omega
    rw [e88]
    refine mwI_rV (mwV_mono (kd88 (d + 7) tc h6 7 M H (cdO T z p :: W) o0 ρ2 _ (fun c hc => by rw [hM c hc]; decide) hH hl2 (by rw [cnt19 hM]; omega) ((fU_at j2 rfl).trans g.1.2.2.2) j1) (fun ρ3 l => ?_))
    have hl3 : H.length + (M.reverse ++ ([cdO T z p] ++ W)).length ≤ lE T z p := by
      rw [List.length_append, List.length_reverse, List.length_append, List.length_singleton]
      rw [List.length_append] at hS
      omega
    have f2 := fr_tr j2 l.2
    exact k ρ3 mn none (aQ_q (aQ_u g f2 l.1)) hl3 (fr_tr f (fU_fQ f2))
  have two : mwI (kd (d + 9) 93 2 [some (v_r 33 0), some (v_i 1), some (v_i mn), none] [] ρ1) Q := by
    rw [ke93_2, g.2.1.2.2.1]
    unfold cdO at fin
    rcases hc with e | e
    · rw [if_pos e] at fin
      rw [if_pos (i13.2 e), g.2.1.2.2.2.2.2 e, w100k _ (lK_13 hp e)]; exact fin
    · have e' : ¬ lK T z p = 13 := by omega
      rw [if_neg e'] at fin
      rw [if_neg (fun w => e' (i13.1 w)), g.2.1.2.2.2.2.1 e.1 e.2]; exact fin
  rcases hc with e | e
  · rw [if_pos (i13.2 e)]; exact two
  · rw [if_neg (fun w => by have := i13.1 w; omega), if_pos (inm.2 e)]; exact two
/-- ) behind an E -/
theorem par_R (d : Nat) {T : Nat → Int} {z tc q o0 : Nat} {K M H W : List Int} {ρ : mj_M} {mn : Int} {o3 : Option mj_V} {Q : Int → mj_M → Prop} (hz : z ≤ 160) (h6 : tc < 6) (hq : q ≤ z) (hc : lK T z q = 41) (hK : ∀ c, c ∈ K → (1 : Int) ≤ rkS c) (hM : ∀ c, c ∈ M → c = 19) (hH : topO H 7) (hl : (K ++ 0 :: (M ++ H)).length + W.length ≤ q) (ho : o0 + M.length + 1 + cntO K ≤ 5) (h : qQ ρ T z tc q (K ++ 0 :: (M ++ H)) (o0 + M.length + 1 + cntO K) W)
    (k : ∀ (ρ' : mj_M) (mn' : Int) (o3' : Option mj_V), qQ ρ' T z tc (lE T z q) H o0 (M.reverse ++ (K.reverse ++ W)) → H.length + (M.reverse ++ (K.reverse ++ W)).length ≤ lE T z q → fr (fQ tc) ρ ρ' → mwI (kd (d + 9) 93 1 [some (v_r 33 0), some (v_i 0), some (v_i mn'), o3'] [] ρ') Q) :
    mwI (kd (d + 9) 93 1 [some (v_r 33 0), some (v_i 0), some (v_i mn), o3] [] ρ) Q := by
  have hE := lE_b (T := T) hq
  have hne : lS T z q ≠ z := fun w => by rw [lK_end w] at hc; exact absurd hc (by decide)
  have hlt : q < lE T z q := Nat.lt_of_le_of_lt (lS_b (T := T) hq).1 (hE.2.2 hne)
  rw [ke93_1]
  refine mwI_rV (mwV_mono (nextR (d + 7) hz hq h) (fun ρ1 g => ?_))
  obtain ⟨g1, g2⟩ := g
  have n3 : ρ1 33 0 32 = 41 := by rw [g1.2.1.2.2.1, hc]; decide
  have hl160 : (K ++ 0 :: (M ++ H)).length + W.length ≤ 160 := Nat.le_trans hl (Nat.le_trans hq hz)
  rw [if_pos rfl, n3, if_neg (by decide), if_pos rfl, e88]
  refine mwI_rV (mwV_mono (kd88 (d + 7) tc h6 1 K (0 :: (M ++ H)) W (o0 + M.length + 1) ρ1 _ hK (show rkS 0 < 1 by decide) hl160 (by omega) g1.1.2.2.2 g1.2.2) (fun ρ2 j => ?_))
  obtain ⟨j1, j2⟩ := j
  have hl0 : (0 :: (M ++ H)).length = (M ++ H).length + 1 := rfl
  have hMH : (M ++ H).length ≤ 160 := by rw [List.length_append, hl0] at hl160; omega
  have h36 : ρ2 33 0 36 = (((M ++ H).length + 1 : Nat) : Int) := j1.1
  have h37 : ρ2 33 0 37 = ((o0 + M.length + 1 : Nat) : Int) := j1.2.2.1
  rw [h36, if_neg (show ¬ ((((M ++ H).length + 1 : Nat)) : Int) = 0 by omega), h37, (wl1 (M ++ H).length (by omega)).1, (wl1 (o0 + M.length) (by omega)).1]
  generalize hρ3 : mj_up (mj_up ρ2 33 0 36 ((M ++ H).length : Int)) 33 0 37 ((o0 + M.length : Nat) : Int) = ρ3
  have f3 : fr (fU tc) ρ2 ρ3 := by rw [← hρ3]; exact fr_tr (fU_33 rfl) (fU_33 rfl)
  have s3 : sQ tc ρ3 (M ++ H) (o0 + cntO M) (K.reverse ++ W) := by
    rw [cnt19 hM, ← hρ3]
    refine ⟨?_, rep_cg (fun i _ => by rw [up_ns (by decide), up_ns (by decide)]) j1.2.1.2, up_eq _ _ _ _ _, ?_, rep_cg (fun i _ => by rw [up_ns (by decide), up_ns (by decide)]) j1.2.2.2.2⟩
    · rw [up_nk (by decide), up_eq]
    · rw [up_nk (by decide), up_nk (by decide)]; exact j1.2.2.2.1
  have hl3 : (M ++ H).length + (K.reverse ++ W).length ≤ 160 := by
    rw [List.length_append (as := K.reverse), List.length_reverse]
    rw [List.length_append, hl0] at hl160
    omega
  have f12 := fr_tr j2 f3
  rw [e88]
  refine mwI_rV (mwV_mono (kd88 (d + 7) tc h6 7 M H (K.reverse ++ W) o0 ρ3 _ (fun c hc => by rw [hM c hc]; decide) hH hl3 (by rw [cnt19 hM]; omega) ((fU_at f12 rfl).trans g1.1.2.2.2) s3) (fun ρ4 l => ?_))
  have f14 := fr_tr f12 l.2
  refine k ρ4 mn none (aQ_q (aQ_u g1 f14 l.1)) ?_ (fr_tr g2 (fU_fQ f14))
  rw [List.length_append, List.length_reverse, List.length_append, List.length_reverse]
  rw [List.length_append, hl0, List.length_append] at hl
  omega
/-- something else behind an E in ( ) -/
theorem nopar_R (d : Nat) {T : Nat → Int} {z tc q o : Nat} {K S W : List Int} {ρ : mj_M} {mn : Int} {o3 : Option mj_V} {Q : Int → mj_M → Prop} (hz : z ≤ 160) (h6 : tc < 6) (hq : q ≤ z) (hc : lK T z q ≠ 41) (hst : stopT T z 1 q) (hK : ∀ c, c ∈ K → (1 : Int) ≤ rkS c) (hp : p4 T z 1 q K) (hl : (K ++ 0 :: S).length + W.length ≤ q) (ho : o + cntO K ≤ 5) (h : qQ ρ T z tc q (K ++ 0 :: S) (o + cntO K) W) (k : ∀ ρ' : mj_M, ρ' 33 0 31 = (lS T z q : Int) → fr (fQ tc) ρ ρ' → Q 0 ρ') :
    mwI (kd (d + 9) 93 1 [some (v_r 33 0), some (v_i 0), some (v_i mn), o3] [] ρ) Q := by
  by_cases h59 : lK T z q = 59
  · rw [ke93_1]
    refine mwI_rV (mwV_mono (nextR (d + 7) hz hq h) (fun ρ1 g => ?_))
    obtain ⟨g1, g2⟩ := g
    have n3 : ρ1 33 0 32 = 59 := by rw [g1.2.1.2.2.1, h59]; decide
    have hl160 : (K ++ 0 :: S).length + W.length ≤ 160 := Nat.le_trans hl (Nat.le_trans hq hz)
    rw [if_pos rfl, n3, if_pos rfl, e88]
    refine mwI_rV (mwV_mono (kd88 (d + 7) tc h6 1 K (0 :: S) W o ρ1 _ hK (show rkS 0 < 1 by decide) hl160 (by omega) g1.1.2.2.2 g1.2.2) (fun ρ2 j => ?_))
    have h36 : ρ2 33 0 36 = ((S.length + 1 : Nat) : Int) := j.1.1
    rw [h36, if_neg (show ¬ ((S.length + 1 : Nat) : Int) = 0 by omega)]
    exact mwI_ret (k ρ2 ((fU_at j.2 rfl).trans g1.2.1.2.1) (fr_tr g2 (fU_fQ j.2)))
  · by_cases hcm : isCm T z q
    · obtain ⟨K1, c, K2, e1, e2, e3⟩ := hp (by decide) hcm
      have es : K ++ 0 :: S = K1 ++ c :: (K2 ++ 0 :: S) := by rw [e1, List.append_assoc]; rfl
      have eo : o + cntO K = (o + cntO (c :: K2)) + cntO K1 := by rw [e1, cntO_app2]; omega
      rw [es, eo] at h
      rw [es] at hl
      rw [eo] at ho
      exact cmp_R d hz h6 hq hl ho h hcm e3 e2 k
    · refine bad_R d hz hq h ?_ h59 hc k
      unfold isCm at hcm
      obtain ⟨s1, s2, s3, s4⟩ := hst
      have s1 := s1 (by decide)
      have s2 := s2 (by decide)
      have s3 := s3 (by decide)
      have s4 := s4 (by decide)
      unfold sgn
      rw [if_neg s4, if_neg s3, if_neg (fun w => hcm (Or.inl w)), if_neg (fun w => hcm (Or.inr w)), if_neg s2.1, if_neg s2.2, if_neg s1]
