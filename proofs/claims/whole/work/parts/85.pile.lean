/-! the reference's pile of signs -/
def rkS (c : Int) : Int := if c = 0 then 0 else if c = 11 then 1 else if c = 12 then 2 else if c = 13 then 3 else if 15 < c then (if 17 < c then (if c = 18 then 6 else 7) else 5) else 4
theorem kc86 (d : Nat) (c : Int) (ρ : mj_M) : kc (d + 1) 86 [v_i c] ρ = some (some (v_i (rkS c)), ρ) := by
  rw [ke86_0]
  unfold rkS
  repeat' split
  all_goals rfl
def cntO : List Int → Nat
  | [] => 0
  | c :: t => if c = 13 ∨ c = 19 then cntO t + 1 else cntO t
def topO (H : List Int) (lv : Int) : Prop := match H with
  | [] => True
  | c :: _ => rkS c < lv
def sQ (tc : Nat) (ρ : mj_M) (S : List Int) (o : Nat) (W : List Int) : Prop := ρ 33 0 36 = (S.length : Int) ∧ rep (ρ 50 0) S ∧ ρ 33 0 37 = (o : Int) ∧ ρ 33 0 38 = (W.length : Int) ∧ rep (fun i => ρ 41 0 (200 * tc + i)) W
/-- what the pile's calls write; and what reading a text may write, of the reference -/
def fU (tc : Nat) : Nat → Nat → Nat → Bool := fun s _ k => (s == 33 && [36, 37, 38].contains k) || (s == 41 && (decide (200 * tc ≤ k) && decide (k < 200 * tc + 200))) || s == 50
def fQ (tc : Nat) : Nat → Nat → Nat → Bool := fun s _ k => (s == 33 && [30, 31, 32, 33, 36, 37, 38].contains k) || (s == 41 && (decide (200 * tc ≤ k) && decide (k < 200 * tc + 200))) || s == 50
theorem fU_33 {tc k : Nat} {ρ : mj_M} {x : Int} (h : [36, 37, 38].contains k = true) : fr (fU tc) ρ (mj_up ρ 33 0 k x) := fr_up (by unfold fU; rw [h]; rfl)
theorem fU_41 {tc i : Nat} {ρ : mj_M} {x : Int} (h : i < 200) : fr (fU tc) ρ (mj_up ρ 41 0 (200 * tc + i) x) := fr_up (by simp [fU]; omega)
theorem fU_50 {tc k : Nat} {ρ : mj_M} {x : Int} : fr (fU tc) ρ (mj_up ρ 50 0 k x) := fr_up (by simp [fU])
theorem fU_at {tc : Nat} {ρ ρ' : mj_M} (h : fr (fU tc) ρ ρ') {k : Nat} (hk : [36, 37, 38].contains k = false) : ρ' 33 0 k = ρ 33 0 k := h 33 0 k (by unfold fU; rw [hk]; rfl)
theorem fQ_at {tc : Nat} {ρ ρ' : mj_M} (h : fr (fQ tc) ρ ρ') {k : Nat} (hk : [30, 31, 32, 33, 36, 37, 38].contains k = false) : ρ' 33 0 k = ρ 33 0 k := h 33 0 k (by unfold fQ; rw [hk]; rfl)
theorem fU_fQ {tc : Nat} {ρ ρ' : mj_M} (h : fr (fU tc) ρ ρ') : fr (fQ tc) ρ ρ' := fr_no h (fun s i k q => by simp [fU] at q; simp [fQ]; omega)
theorem fN_fQ {tc : Nat} {ρ ρ' : mj_M} (h : fr fN ρ ρ') : fr (fQ tc) ρ ρ' := fr_no h (fun s i k q => by simp [fN] at q; simp [fQ]; omega)
theorem sQ_fN {tc : Nat} {ρ ρ' : mj_M} {S W : List Int} {o : Nat} (h : sQ tc ρ S o W) (f : fr fN ρ ρ') : sQ tc ρ' S o W := by
  obtain ⟨h1, h2, h3, h4, h5⟩ := h
  refine ⟨?_, rep_cg (fun i _ => f 50 0 i rfl) h2, ?_, ?_, rep_cg (fun i _ => f 41 0 _ rfl) h5⟩
  · rw [f 33 0 36 rfl]; exact h1
  · rw [f 33 0 37 rfl]; exact h3
  · rw [f 33 0 38 rfl]; exact h4
theorem w200 (tc n : Nat) (h : tc < 6) (hn : n < 200) : mj_w (mj_w (200 * (tc : Int)) + (n : Int)) = ((200 * tc + n : Nat) : Int) ∧ (0 ≤ ((200 * tc + n : Nat) : Int) ∧ ((200 * tc + n : Nat) : Int) < 1200) := by
  refine ⟨?_, by omega⟩
  rw [wi (z := 200 * (tc : Int)) (by omega) (by omega), wi (by omega) (by omega)]; omega
theorem kc87 (d tc : Nat) (h6 : tc < 6) (c : Int) {ρ : mj_M} {S W : List Int} {o : Nat} (ht : ρ 33 0 15 = (tc : Int)) (hW : W.length < 200) (h : sQ tc ρ S o W) : mwV (kc (d + 1) 87 [v_r 33 0, v_i c] ρ) (fun ρ' => sQ tc ρ' S o (c :: W) ∧ fr (fU tc) ρ ρ') := by
  obtain ⟨h1, h2, h3, h4, h5⟩ := h
  obtain ⟨w1, w2⟩ := w200 tc W.length h6 hW
  rw [ke87_0, ht, h4, w1, if_pos w2, Int.toNat_natCast, wk W.length hW (by decide)]
  refine mwV_ret ⟨⟨?_, ?_, ?_, ?_, ?_, ?_⟩, fr_tr (fU_41 hW) (fU_33 rfl)⟩
  · rw [up_nk (by decide), up_ns (by decide)]; exact h1
  · exact rep_cg (fun i _ => by rw [up_ns (by decide), up_ns (by decide)]) h2
  · rw [up_nk (by decide), up_ns (by decide)]; exact h3
  · rw [up_eq]; rfl
  · show mj_up (mj_up ρ 41 0 (200 * tc + W.length) c) 33 0 38 _ 41 0 (200 * tc + W.length) = c
    rw [up_ns (by decide), up_eq]
  · refine rep_cg (fun i hi => ?_) h5
    show mj_up (mj_up ρ 41 0 (200 * tc + W.length) c) 33 0 38 _ 41 0 (200 * tc + i) = ρ 41 0 (200 * tc + i)
    rw [up_ns (by decide), up_nk (fun w => absurd (Nat.add_left_cancel w) (Nat.ne_of_lt hi))]
theorem kc89 (d tc : Nat) (c : Int) {ρ : mj_M} {S W : List Int} {o : Nat} (hS : S.length < 200) (h : sQ tc ρ S o W) : mwV (kc (d + 1) 89 [v_r 33 0, v_i c] ρ) (fun ρ' => sQ tc ρ' (c :: S) o W ∧ fr (fU tc) ρ ρ') := by
  obtain ⟨h1, h2, h3, h4, h5⟩ := h
  rw [ke89_0, h1, if_pos ⟨Int.natCast_nonneg _, Int.ofNat_lt.mpr hS⟩, Int.toNat_natCast, wk S.length hS (by decide)]
  refine mwV_ret ⟨⟨?_, ⟨?_, ?_⟩, ?_, ?_, ?_⟩, fr_tr fU_50 (fU_33 rfl)⟩
  · rw [up_eq]; rfl
  · rw [up_ns (by decide), up_eq]
  · exact rep_cg (fun i hi => by rw [up_ns (by decide), up_nk (Nat.ne_of_lt hi)]) h2
  · rw [up_nk (by decide), up_ns (by decide)]; exact h3
  · rw [up_nk (by decide), up_ns (by decide)]; exact h4
  · exact rep_cg (fun i _ => by rw [up_ns (by decide), up_ns (by decide)]) h5
theorem e88 (d : Nat) (a : Int) (ρ : mj_M) : kc (d + 1) 88 [v_r 33 0, v_i a] ρ = kd d 88 0 [some (v_r 33 0), some (v_i a), none] [] ρ := rfl
theorem wl1 (n : Nat) (h : n ≤ 1000) : mj_w (((n + 1 : Nat) : Int) - 1) = (n : Int) ∧ mj_w ((n : Int) - 0) = (n : Int) := by
  refine ⟨?_, ?_⟩
  · rw [wi (by omega) (by omega)]; omega
  · rw [wi (by omega) (by omega)]; omega
theorem kd88 (d tc : Nat) (h6 : tc < 6) (lv : Int) : ∀ (K H W : List Int) (o : Nat) (ρ : mj_M) (o2 : Option mj_V), (∀ c, c ∈ K → lv ≤ rkS c) → topO H lv → (K ++ H).length + W.length ≤ 160 → o + cntO K ≤ 100 → ρ 33 0 15 = (tc : Int) → sQ tc ρ (K ++ H) (o + cntO K) W →
    mwV (kd (d + 1) 88 0 [some (v_r 33 0), some (v_i lv), o2] [] ρ) (fun ρ' => sQ tc ρ' H o (K.reverse ++ W) ∧ fr (fU tc) ρ ρ') := by
  intro K
  induction K with
  | nil =>
    intro H W o ρ o2 hK hH hl ho ht h
    have h' := h
    obtain ⟨h1, h2, h3, h4, h5⟩ := h
    rw [ke88_0]
    cases H with
    | nil =>
      have h1' : ρ 33 0 36 = 0 := h1
      rw [h1', if_neg (by decide)]
      exact mwV_ret ⟨h', fr_rf⟩
    | cons c t =>
      have h1' : ρ 33 0 36 = ((t.length + 1 : Nat) : Int) := h1
      have hc : ρ 50 0 t.length = c := h2.1
      have ht160 : t.length < 160 := by
        have : t.length + 1 + W.length ≤ 160 := hl
        omega
      have hb : 0 ≤ (t.length : Int) ∧ (t.length : Int) < 200 := by omega
      have hp : (0 : Int) < ((t.length + 1 : Nat) : Int) := by omega
      rw [h1', if_pos hp, (wl1 t.length (by omega)).1, if_pos hb, Int.toNat_natCast, hc, kc86, rI_some, if_pos (show rkS c < lv from hH)]
      exact mwV_ret ⟨h', fr_rf⟩
  | cons c K ih =>
    intro H W o ρ o2 hK hH hl ho ht h
    obtain ⟨h1, h2, h3, h4, h5⟩ := h
    have h1' : ρ 33 0 36 = (((K ++ H).length + 1 : Nat) : Int) := h1
    have hc : ρ 50 0 (K ++ H).length = c := h2.1
    have hl' : (K ++ H).length + 1 + W.length ≤ 160 := hl
    have hb : 0 ≤ ((K ++ H).length : Int) ∧ ((K ++ H).length : Int) < 200 := by omega
    have hp : (0 : Int) < (((K ++ H).length + 1 : Nat) : Int) := by omega
    have hW : W.length < 200 := by omega
    have hl2 : (K ++ H).length + (c :: W).length ≤ 160 := by rw [List.length_cons]; omega
    have hw1 := (wl1 (K ++ H).length (by omega)).1
    have hlv : ¬ rkS c < lv := Int.not_lt.mpr (hK c (List.mem_cons_self ..))
    have hrev : (c :: K).reverse ++ W = K.reverse ++ (c :: W) := by rw [List.reverse_cons, List.append_assoc]; rfl
    rw [hrev]
    have step : ∀ (ρ1 : mj_M) (o' : Option mj_V), ρ1 33 0 15 = (tc : Int) → fr (fU tc) ρ ρ1 → sQ tc ρ1 (K ++ H) (o + cntO K) W → mwV (mj_rV (kc (d + 1) 87 [v_r 33 0, v_i c] ρ1) fun m3 => kd (d + 1) 88 0 [some (v_r 33 0), some (v_i lv), o'] [] m3) (fun ρ' => sQ tc ρ' H o (K.reverse ++ (c :: W)) ∧ fr (fU tc) ρ ρ') := by
      intro ρ1 o' ht1 hf1 hs1
      refine mwV_rV (mwV_mono (kc87 d tc h6 c ht1 hW hs1) (fun ρ2 g => ?_))
      have hocnt : o + cntO K ≤ 100 := by
        have : cntO K ≤ cntO (c :: K) := by
          show cntO K ≤ if c = 13 ∨ c = 19 then cntO K + 1 else cntO K
          split <;> omega
        omega
      exact mwV_mono (ih H (c :: W) o ρ2 _ (fun x hx => hK x (List.mem_cons_of_mem _ hx)) hH hl2 hocnt ((fU_at g.2 rfl).trans ht1) g.1) (fun ρ' k => ⟨k.1, fr_tr hf1 (fr_tr g.2 k.2)⟩)
    have mk : ∀ x : Int, x = ((o + cntO K : Nat) : Int) → sQ tc (mj_up (mj_up ρ 33 0 36 ((K ++ H).length : Int)) 33 0 37 x) (K ++ H) (o + cntO K) W := by
      intro x hx
      refine ⟨?_, rep_cg (fun i _ => by rw [up_ns (by decide), up_ns (by decide)]) h2.2, ?_, ?_, rep_cg (fun i _ => by rw [up_ns (by decide), up_ns (by decide)]) h5⟩
      · rw [up_nk (by decide), up_eq]
      · rw [up_eq]; exact hx
      · rw [up_nk (by decide), up_nk (by decide)]; exact h4
    have mt : ∀ x, mj_up (mj_up ρ 33 0 36 ((K ++ H).length : Int)) 33 0 37 x 33 0 15 = (tc : Int) := fun x => by rw [up_nk (by decide), up_nk (by decide)]; exact ht
    have mf : ∀ x, fr (fU tc) ρ (mj_up (mj_up ρ 33 0 36 ((K ++ H).length : Int)) 33 0 37 x) := fun x => fr_tr (fU_33 rfl) (fU_33 rfl)
    rw [ke88_0, h1', if_pos hp, hw1, if_pos hb, Int.toNat_natCast, hc, kc86, rI_some, if_neg hlv, h1', hw1, if_pos hb, Int.toNat_natCast, hc, h3]
    by_cases q1 : c = 13
    · have e : cntO (c :: K) = cntO K + 1 := if_pos (Or.inl q1)
      rw [if_pos q1, e, ← Nat.add_assoc, (wl1 (o + cntO K) (by omega)).1]
      exact step _ _ (mt _) (mf _) (mk _ rfl)
    · rw [if_neg q1]
      by_cases q2 : c = 19
      · have e : cntO (c :: K) = cntO K + 1 := if_pos (Or.inr q2)
        rw [if_pos q2, e, ← Nat.add_assoc, (wl1 (o + cntO K) (by omega)).1]
        exact step _ _ (mt _) (mf _) (mk _ rfl)
      · have e : cntO (c :: K) = cntO K := if_neg (fun w => w.elim q1 q2)
        rw [if_neg q2, e, (wl1 (o + cntO K) (by omega)).2]
        exact step _ _ (mt _) (mf _) (mk _ rfl)
theorem kc90 (d tc : Nat) (c : Int) {ρ : mj_M} {S W : List Int} {o : Nat} (hS : S.length < 200) (ho : o < 5) (h : sQ tc ρ S o W) : mwI (kc (d + 2) 90 [v_r 33 0, v_i c] ρ) (fun x ρ' => x = 1 ∧ sQ tc ρ' (c :: S) (o + 1) W ∧ fr (fU tc) ρ ρ') := by
  have h3 := h.2.2.1
  rw [ke90_0, h3, if_neg (show ¬ (o : Int) = 5 by omega), wk o (m := 5) ho (by decide)]
  have h' : sQ tc (mj_up ρ 33 0 37 ((o + 1 : Nat) : Int)) S (o + 1) W := ⟨by rw [up_nk (by decide)]; exact h.1, rep_cg (fun i _ => by rw [up_ns (by decide)]) h.2.1, up_eq _ _ _ _ _, by rw [up_nk (by decide)]; exact h.2.2.2.1, rep_cg (fun i _ => by rw [up_ns (by decide)]) h.2.2.2.2⟩
  refine mwI_rV (mwV_mono (kc89 d tc c hS h') (fun ρ' g => ?_))
  exact mwI_ret ⟨rfl, g.1, fr_tr (fU_33 rfl) g.2⟩
theorem kc90n (d : Nat) (c : Int) {ρ : mj_M} (h : ρ 33 0 37 = 5) : kc (d + 1) 90 [v_r 33 0, v_i c] ρ = some (some (v_i 0), ρ) := by
  rw [ke90_0, h, if_pos rfl]
/-- by which a sign unwinds -/
def lvS (s : Int) : Int := if rkS s = 4 then 5 else rkS s
def noCmp (H : List Int) : Prop := match H with
  | [] => True
  | c :: _ => rkS c ≠ 4
theorem kc91 (d tc : Nat) (h6 : tc < 6) (s : Int) {ρ : mj_M} {K H W : List Int} {o : Nat} (hK : ∀ c, c ∈ K → lvS s ≤ rkS c) (hH : topO H (lvS s)) (hl : (K ++ H).length + W.length ≤ 160) (ho : o + cntO K ≤ 100) (ht : ρ 33 0 15 = (tc : Int)) (h : sQ tc ρ (K ++ H) (o + cntO K) W) (hc : rkS s = 4 → noCmp H) :
    mwI (kc (d + 3) 91 [v_r 33 0, v_i s] ρ) (fun x ρ' => x = 1 ∧ sQ tc ρ' (s :: H) o (K.reverse ++ W) ∧ fr (fU tc) ρ ρ') := by
  have two : mwI (kd (d + 2) 91 2 [some (v_r 33 0), some (v_i s)] [v_i (lvS s), v_r 33 0] ρ) (fun x ρ' => x = 1 ∧ sQ tc ρ' (s :: H) o (K.reverse ++ W) ∧ fr (fU tc) ρ ρ') := by
    rw [ke91_2, e88]
    refine mwI_rV (mwV_mono (kd88 d tc h6 (lvS s) K H W o ρ _ hK hH hl ho ht h) (fun ρ1 g => ?_))
    obtain ⟨g1, g2⟩ := g
    have hHl : H.length < 160 ∨ H.length = 160 := by rw [List.length_append] at hl; omega
    have hH200 : H.length < 200 := by omega
    have fin : mwI (mj_rV (kc (d + 2) 89 [v_r 33 0, v_i s] ρ1) fun m8 => some (some (v_i 1), m8)) (fun x ρ' => x = 1 ∧ sQ tc ρ' (s :: H) o (K.reverse ++ W) ∧ fr (fU tc) ρ ρ') :=
      mwI_rV (mwV_mono (kc89 (d + 1) tc s hH200 g1) (fun ρ2 k => mwI_ret ⟨rfl, k.1, fr_tr g2 k.2⟩))
    rw [kc86, rI_some]
    by_cases q : rkS s = 4
    · rw [if_pos q, g1.1]
      cases H with
      | nil =>
        rw [if_neg (show ¬ (0 : Int) < (([] : List Int).length : Int) from by decide)]
        exact fin
      | cons c t =>
        have hl1 : (c :: t).length = t.length + 1 := rfl
        have hc4 : rkS c ≠ 4 := hc q
        have ht200 : t.length < 200 := by rw [hl1] at hH200; omega
        rw [hl1, if_pos (show (0 : Int) < ((t.length + 1 : Nat) : Int) by omega), (wl1 t.length (by omega)).1, if_pos ⟨Int.natCast_nonneg _, Int.ofNat_lt.mpr ht200⟩, Int.toNat_natCast, g1.2.1.1, kc86, rI_some, if_neg hc4]
        exact fin
    · rw [if_neg q]; exact fin
  rw [ke91_0, kc86, rI_some]
  unfold lvS at two
  by_cases q : rkS s = 4
  · rw [if_pos q] at two
    rw [if_pos q]; exact two
  · rw [if_neg q] at two
    rw [if_neg q, kc86, rI_some]; exact two
/-- a comparison behind another one -/
theorem kc91n (d tc : Nat) (h6 : tc < 6) (s : Int) (hs : rkS s = 4) {ρ : mj_M} {K t W : List Int} {c : Int} {o : Nat} (hc : rkS c = 4) (hK : ∀ c, c ∈ K → 5 ≤ rkS c) (hl : (K ++ c :: t).length + W.length ≤ 160) (ho : o + cntO K ≤ 100) (ht : ρ 33 0 15 = (tc : Int)) (h : sQ tc ρ (K ++ c :: t) (o + cntO K) W) :
    mwI (kc (d + 3) 91 [v_r 33 0, v_i s] ρ) (fun x ρ' => x = 0 ∧ fr (fU tc) ρ ρ') := by
  rw [ke91_0, kc86, rI_some, if_pos hs, ke91_2, e88]
  refine mwI_rV (mwV_mono (kd88 d tc h6 5 K (c :: t) W o ρ _ hK (show rkS c < 5 by rw [hc]; decide) hl ho ht h) (fun ρ1 g => ?_))
  obtain ⟨g1, g2⟩ := g
  have hl1 : (c :: t).length = t.length + 1 := rfl
  have ht200 : t.length < 200 := by rw [List.length_append, hl1] at hl; omega
  rw [kc86, rI_some, if_pos hs, g1.1, hl1, if_pos (show (0 : Int) < ((t.length + 1 : Nat) : Int) by omega), (wl1 t.length (by omega)).1, if_pos ⟨Int.natCast_nonneg _, Int.ofNat_lt.mpr ht200⟩, Int.toNat_natCast, g1.2.1.1, kc86, rI_some, if_pos hc]
  exact mwI_ret ⟨rfl, g2⟩
