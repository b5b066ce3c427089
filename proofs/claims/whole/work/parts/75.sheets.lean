/-! film, sheet, cell -/
def zE (Z : pZ) : Prop := ∀ a, mj_n32 (Z 3 a)
theorem zE_call {I : pI} {Z : pZ} {c a : Nat} {t : Int} (h : zE Z) : zE (pCall I c a t Z) := by
  intro k
  have e : pCall I c a t Z 3 k = Z 3 k ∨ ∃ x, pCall I c a t Z 3 k = mj_w x := by
    unfold pCall
    split
    · split
      · exact Or.inl (by simp [zU])
      · by_cases q : k = a
        · exact Or.inr ⟨_, by simp [zU, q]; rfl⟩
        · exact Or.inl (by simp [zU, q])
    · exact Or.inl (by simp [zU])
  rcases e with e | ⟨x, e⟩
  · rw [e]; exact h k
  · rw [e]; exact mj_w_in x
theorem zE_counters {I : pI} {Z : pZ} {t : Int} (h : zE Z) : ∀ c, zE (pCounters I t c Z)
  | 0 => h
  | c + 1 => by
    have ih := zE_counters (I := I) (t := t) h c
    show zE (pCounter I t c (pCounters I t c Z))
    unfold pCounter
    split
    · exact ih
    split
    · exact ih
    split
    · intro k
      unfold zU
      rw [if_neg (by omega)]
      exact ih k
    · exact zE_call ih
theorem zE_day (I : pI) : ∀ t : Nat, zE (pDay I t)
  | 0 => fun _ => (⟨by decide, by decide⟩ : mj_n32 (-1))
  | t + 1 => zE_counters (show zE (pComes I (t : Int) (pDay I t)) from fun k => by
      have := zE_day I t k
      unfold pComes
      rw [if_neg (by omega)]
      exact this) I.n
def nH : Nat → Nat → Nat → Bool := fun s i k => !((s == 1 && (i == 0 && !(k == 9))) || ([2, 3, 4, 5].contains s && i == 0) || s == 7)
def nH' : Nat → Nat → Nat → Bool := fun s _ k => !((s == 33 && [0, 2, 3, 4, 5, 41, 50].contains k) || [34, 35, 36, 37, 38, 39].contains s)
theorem vHall_cg {μ μ' ρ ρ' : mj_M} {n m : Nat} (h : vHall μ ρ n m) (g : fr nH μ μ') (g' : fr nH' ρ ρ') : vHall μ' ρ' n m := by
  obtain ⟨⟨a1, a2, a3, a4, a5, a6⟩, ⟨⟨b1, b1'⟩, ⟨b2, b2'⟩, ⟨b3, b3'⟩⟩, ⟨c1, c2, c3, c4⟩, hcs, has⟩ := h
  refine ⟨⟨a1, a2, ?_, ?_, ?_, ?_⟩, ⟨⟨?_, ?_⟩, ⟨?_, ?_⟩, ⟨?_, ?_⟩⟩, ⟨?_, ?_, ?_, ?_⟩, fun c hc => ?_, fun a ha => ?_⟩
  · rw [g 1 0 0 rfl]; exact a3
  · rw [g' 33 0 0 rfl]; exact a4
  · rw [g 1 0 4 rfl]; exact a5
  · rw [g' 33 0 5 rfl]; exact a6
  · rw [g 1 0 6 rfl, g' 33 0 2 rfl]; exact b1
  · rw [g 1 0 6 rfl]; exact b1'
  · rw [g 1 0 7 rfl, g' 33 0 3 rfl]; exact b2
  · rw [g 1 0 7 rfl]; exact b2'
  · rw [g 1 0 8 rfl, g' 33 0 4 rfl]; exact b3
  · rw [g 1 0 8 rfl]; exact b3'
  · rw [g 1 0 10 rfl]; exact c1
  · rw [g 1 0 11 rfl]; exact c2
  · rw [g' 33 0 41 rfl]; exact c3
  · rw [g' 33 0 50 rfl]; exact c4
  · rw [g 2 0 c rfl, g 3 0 c rfl, g 4 0 c rfl, g' 34 0 _ rfl, g' 34 0 _ rfl, g' 34 0 _ rfl]; exact hcs c hc
  · rw [g 7 a 0 rfl, g 7 a 1 rfl, g 7 a 2 rfl, g 7 a 3 rfl, g 5 0 a rfl, g' 35 0 a rfl, g' 36 0 a rfl, g' 37 0 a rfl, g' 38 0 a rfl, g' 39 0 a rfl]; exact has a ha
def pSh (s : Nat) : Nat → Nat → Nat → Bool := fun a i _ => (a == 19 || a == 20) && i == s
def qSh (s : Nat) : Nat → Nat → Nat → Bool := fun a _ k => ((a == 45 || a == 46) && k == s) || (a == 47 && (decide (40 * s ≤ k) && decide (k < 40 * s + 40)))
def shOK (μ ρ : mj_M) (s : Nat) : Prop := (ρ 45 0 s = μ 19 s 0 ∧ rg (μ 19 s 0) (-1) 2) ∧ (ρ 46 0 s = μ 19 s 1 ∧ rg (μ 19 s 1) 0 40) ∧ ∀ i, i < 40 → ρ 47 0 (40 * s + i) = μ 20 s i ∧ mj_n32 (μ 20 s i)
theorem Inv_sheet {μ ρ μ' ρ' : mj_M} {s : Nat} (h : Inv μ ρ) (hs : s < 4) (f : fr (pSh s) μ μ') (f' : fr (qSh s) ρ ρ') (H : shOK μ' ρ' s) : Inv μ' ρ' := by
  obtain ⟨n, m, t, tc, z, hH, hT, hP, hM, hS⟩ := h
  have g := mC_frm f
  have g' := mR_frm f'
  refine ⟨n, m, t, tc, z, vHall_cg hH (fr_no g (fun s i k q => by simp [pSh] at q; simp [nH]; omega)) (fr_no g' (fun s i k q => by simp [qSh] at q; simp [nH']; omega)), vText_cg hT (fr_no g (fun s i k q => by simp [pSh] at q; simp [nT]; omega)) (fr_no g' (fun s i k q => by simp [qSh] at q; simp [nT']; omega)), vTape_cg hP (fr_no g (fun s i k q => by simp [pSh] at q; simp [nP]; omega)) (fr_no g' (fun s i k q => by simp [qSh] at q; simp [nP']; omega)), vImg_cg hM (fr_no g (fun s i k q => by simp [pSh] at q; simp [nM]; omega)) (fr_no g' (fun s i k q => by simp [qSh] at q; simp [nM']; omega)), fun r hr => ?_⟩
  by_cases e : r = s
  · rw [e]; exact H
  · obtain ⟨h1, h2, h3⟩ := hS r hr
    refine ⟨?_, ?_, fun i hi => ?_⟩
    · rw [g' 45 0 r (by simp [qSh]; omega), g 19 r 0 (by simp [pSh]; omega)]; exact h1
    · rw [g' 46 0 r (by simp [qSh]; omega), g 19 r 1 (by simp [pSh]; omega)]; exact h2
    · rw [g' 47 0 (40 * r + i) (by simp [qSh]; omega), g 20 r i (by simp [pSh]; omega)]; exact h3 i hi
theorem pSh_up {s a k : Nat} {x : Int} {μ : mj_M} (h : a = 19 ∨ a = 20) : fr (pSh s) μ (mj_up μ a s k x) := fr_up (by rcases h with rfl | rfl <;> simp [pSh])
theorem qSh_up {s a : Nat} {x : Int} {ρ : mj_M} (h : a = 45 ∨ a = 46) : fr (qSh s) ρ (mj_up ρ a 0 s x) := fr_up (by rcases h with rfl | rfl <;> simp [qSh])
theorem qSh_cell {s i : Nat} {x : Int} {ρ : mj_M} (h : i < 40) : fr (qSh s) ρ (mj_up ρ 47 0 (40 * s + i) x) := fr_up (by simp [qSh]; omega)
theorem kc195 (d s : Nat) (so n : Int) (μ : mj_M) : mwV (kc (d + 1) 195 [v_r 19 s, v_i so, v_i n] μ) (fun μ' => fr (pSh s) μ μ' ∧ μ' 19 s 0 = so ∧ μ' 19 s 1 = n ∧ ∀ i, i < 40 → μ' 20 s i = 0) := by
  have key : ∀ j k (o1 o2 : Option mj_V) (μ1 : mj_M), k + j = 40 → fr (pSh s) μ μ1 → μ1 19 s 0 = so → μ1 19 s 1 = n → (∀ i, i < k → μ1 20 s i = 0) → mwV (kd d 195 1 [some (v_r 19 s), o1, o2, some (v_i (k : Int))] [] μ1) (fun μ' => fr (pSh s) μ μ' ∧ μ' 19 s 0 = so ∧ μ' 19 s 1 = n ∧ ∀ i, i < 40 → μ' 20 s i = 0) := by
    intro j
    induction j with
    | zero =>
      intro k o1 o2 μ1 hk h1 h2 h3 h4
      have e : k = 40 := by omega
      rw [ke195_1, if_neg (by omega)]
      exact mwV_ret ⟨h1, h2, h3, e ▸ h4⟩
    | succ j ih =>
      intro k o1 o2 μ1 hk h1 h2 h3 h4
      rw [ke195_1, if_pos (by omega), if_pos (by omega), Int.toNat_natCast, wk k (m := 40) (by omega) (by omega)]
      refine ih (k + 1) _ _ _ (by omega) (fr_tr h1 (pSh_up (Or.inr rfl))) ?_ ?_ (fun i hi => ?_)
      · rw [up_ns (by decide)]; exact h2
      · rw [up_ns (by decide)]; exact h3
      · by_cases e : i = k
        · rw [e, up_eq]
        · rw [up_nk e]; exact h4 i (by omega)
  rw [ke195_0]
  exact key 40 0 _ _ _ (by omega) (fr_tr (pSh_up (Or.inl rfl)) (pSh_up (Or.inl rfl))) (by rw [up_nk (by decide), up_eq]) (up_eq _ _ _ _ _) (fun i hi => absurd hi (Nat.not_lt_zero i))
theorem kd34 (d s m : Nat) (hs : s < 4) (hm : m ≤ 16) (μ : mj_M) (F : Nat → Int) (h4 : μ 1 0 4 = (m : Int)) (hF : ∀ a, a < m → μ 24 0 a = F a) : ∀ j k (μ1 : mj_M), k + j = m → fr (pSh s) μ μ1 → μ1 19 s 0 = 2 → μ1 19 s 1 = (m : Int) → (∀ i, i < 40 → μ1 20 s i = if i < k then F i else 0) →
    mwI (kd (d + 1) 34 2 [some (v_r 0 0), some (v_i (s : Int)), some (v_i (k : Int))] [] μ1) (fun x μ' => x = (m : Int) ∧ fr (pSh s) μ μ' ∧ μ' 19 s 0 = 2 ∧ μ' 19 s 1 = (m : Int) ∧ ∀ i, i < 40 → μ' 20 s i = if i < m then F i else 0) := by
  intro j
  induction j with
  | zero =>
    intro k μ1 hk h1 h2 h3 hc
    have e : k = m := by omega
    rw [ke34_2, (h1 1 0 4 rfl).trans h4, if_neg (by omega)]
    exact mwI_ret ⟨rfl, h1, h2, h3, e ▸ hc⟩
  | succ j ih =>
    intro k μ1 hk h1 h2 h3 hc
    have hb : 0 ≤ (k : Int) ∧ (k : Int) < 16 := by omega
    have hb40 : 0 ≤ (k : Int) ∧ (k : Int) < 40 := by omega
    rw [ke34_2, (h1 1 0 4 rfl).trans h4, if_pos (by omega), if_pos (by omega), if_pos hb, Int.toNat_natCast, Int.toNat_natCast, ke196_0, h2, if_neg (by decide), if_neg (by decide), if_pos hb40, rV_some, Int.toNat_natCast, wk k (m := 16) (by omega) (by omega), (h1 24 0 k rfl).trans (hF k (by omega))]
    refine ih (k + 1) _ (by omega) (fr_tr h1 (pSh_up (Or.inr rfl))) ?_ ?_ (fun i hi => ?_)
    · rw [up_ns (by decide)]; exact h2
    · rw [up_ns (by decide)]; exact h3
    · by_cases e : i = k
      · rw [e, up_eq, if_pos (by omega)]
      · rw [up_nk e, hc i hi]
        by_cases q : i < k
        · rw [if_pos q, if_pos (by omega)]
        · rw [if_neg q, if_neg (by omega)]
theorem kd149 (d s m : Nat) (hs : s < 4) (hm : m ≤ 16) (ρ : mj_M) (F : Nat → Int) (h5 : ρ 33 0 5 = (m : Int)) (hF : ∀ a, a < m → ρ 56 0 a = F a) : ∀ j k (ρ1 : mj_M), k + j = 40 → fr (qSh s) ρ ρ1 → ρ1 45 0 s = 2 → ρ1 46 0 s = (m : Int) → (∀ i, i < k → ρ1 47 0 (40 * s + i) = if i < m then F i else 0) →
    mwI (kd d 149 2 [some (v_r 33 0), some (v_i (s : Int)), some (v_i (k : Int))] [] ρ1) (fun x ρ' => x = (m : Int) ∧ fr (qSh s) ρ ρ' ∧ ρ' 45 0 s = 2 ∧ ρ' 46 0 s = (m : Int) ∧ ∀ i, i < 40 → ρ' 47 0 (40 * s + i) = if i < m then F i else 0) := by
  intro j
  induction j with
  | zero =>
    intro k ρ1 hk h1 h2 h3 hc
    have e : k = 40 := by omega
    rw [ke149_2, if_neg (by omega), (h1 33 0 5 rfl).trans h5]
    exact mwI_ret ⟨rfl, h1, h2, h3, e ▸ hc⟩
  | succ j ih =>
    intro k ρ1 hk h1 h2 h3 hc
    obtain ⟨w1, w2⟩ := w40 s k hs (by omega)
    have next : ∀ x, x = (if k < m then F k else 0) → mwI (kd d 149 2 [some (v_r 33 0), some (v_i (s : Int)), some (v_i (((k + 1 : Nat) : Int)))] [] (mj_up ρ1 47 0 (40 * s + k) x)) (fun x ρ' => x = (m : Int) ∧ fr (qSh s) ρ ρ' ∧ ρ' 45 0 s = 2 ∧ ρ' 46 0 s = (m : Int) ∧ ∀ i, i < 40 → ρ' 47 0 (40 * s + i) = if i < m then F i else 0) := by
      intro x hx
      refine ih (k + 1) _ (by omega) (fr_tr h1 (qSh_cell (by omega))) ?_ ?_ (fun i hi => ?_)
      · rw [up_ns (by decide)]; exact h2
      · rw [up_ns (by decide)]; exact h3
      · by_cases e : i = k
        · rw [e, up_eq, hx]
        · rw [up_nk (by omega)]; exact hc i (by omega)
    rw [ke149_2, if_pos (by omega), (h1 33 0 5 rfl).trans h5, w1, if_pos w2, wk k (m := 40) (by omega) (by omega), Int.toNat_natCast]
    by_cases q : (k : Int) < (m : Int)
    · rw [if_pos q, if_pos (by omega), Int.toNat_natCast, (h1 56 0 k rfl).trans (hF k (by omega))]
      exact next (F k) (if_pos (by omega)).symm
    · rw [if_neg q, if_pos w2]
      exact next 0 (if_neg (fun w => q (by omega))).symm
theorem op_film (d : Nat) (s : Int) {μ ρ : mj_M} (h : Inv μ ρ) : mw2 (kc (d + 20) 34 [v_r 0 0, v_i s] μ) (kc (d + 20) 149 [v_r 33 0, v_i s] ρ) := by
  obtain ⟨I, t, hD, -⟩ := Inv_day h
  obtain ⟨n4, m16, t6, cn, rn, cm, rm⟩ := dAll_n hD
  rw [ke34_0, ke149_0, kc48, kc72, rI_some, rI_some]
  by_cases q : 0 ≤ s ∧ s ≤ 3
  · obtain ⟨k, rfl⟩ : ∃ k : Nat, s = k := ⟨s.toNat, by omega⟩
    have hb : 0 ≤ (k : Int) ∧ (k : Int) < 4 := by omega
    have hk : k < 4 := by omega
    rw [b01_t q, if_neg n10, if_neg n10]
    obtain ⟨μ1, e1, gZ, gI, gf⟩ := liveC (d + 13) hD
    obtain ⟨ρ1, e2, rZ, rI', rf⟩ := liveR (d + 12) hD
    rw [e1, e2, rV_some, rV_some, if_pos hb, if_pos hb, if_pos hb, Int.toNat_natCast, (gf 1 0 4 rfl).trans cm, (rf 33 0 5 rfl).trans rm]
    have hInv1 := Inv_fr h gf rf
    obtain ⟨μ2, e3, a1, a2, a3, a4⟩ := kc195 (d + 18) k 2 (I.m : Int) μ1
    rw [e3, rV_some]
    obtain ⟨x, μ3, e4, rfl, b1, b2, b3, b4⟩ := kd34 (d + 18) k I.m hk m16 μ1 (pLife I 3) ((gf 1 0 4 rfl).trans cm) (fun a ha => zC_a gZ ha 3 (by decide)) I.m 0 μ2 (by omega) a1 a2 a3 (fun i hi => by rw [if_neg (Nat.not_lt_zero i)]; exact a4 i hi)
    obtain ⟨y, ρ3, e5, rfl, c1, c2, c3, c4⟩ := kd149 (d + 19) k I.m hk m16 ρ1 (pLife I 3) ((rf 33 0 5 rfl).trans rm) (fun a ha => zR_a rZ ha 3 (by decide)) 40 0 (mj_up (mj_up ρ1 45 0 k 2) 46 0 k (I.m : Int)) (by omega) (fr_tr (qSh_up (Or.inl rfl)) (qSh_up (Or.inr rfl))) (by rw [up_ns (by decide), up_eq]) (up_eq _ _ _ _ _) (fun i hi => absurd hi (Nat.not_lt_zero i))
    refine ⟨_, μ3, ρ3, e4, e5, Inv_sheet hInv1 hk b1 c1 ⟨⟨c2.trans b2.symm, ?_⟩, ⟨c3.trans b3.symm, ?_⟩, fun i hi => ⟨(c4 i hi).trans (b4 i hi).symm, ?_⟩⟩⟩
    · rw [b2]; exact ⟨by decide, by decide⟩
    · rw [b3]; unfold rg; omega
    · rw [b4 i hi]
      split
      · exact zE_day I 240 i
      · exact mj_n0
  · rw [b01_f q, if_pos rfl, if_pos rfl]; exact mw2_same _ h
theorem kd157 (d s : Nat) (hs : s < 4) (so n : Int) (ρ : mj_M) : ∀ j k (o2 o3 : Option mj_V) (ρ1 : mj_M), k + j = 40 → fr (qSh s) ρ ρ1 → ρ1 45 0 s = so → ρ1 46 0 s = n → (∀ i, i < k → ρ1 47 0 (40 * s + i) = 0) →
    mwI (kd d 157 6 [some (v_r 33 0), some (v_i (s : Int)), o2, o3, some (v_i (k : Int))] [] ρ1) (fun x ρ' => x = 1 ∧ fr (qSh s) ρ ρ' ∧ ρ' 45 0 s = so ∧ ρ' 46 0 s = n ∧ ∀ i, i < 40 → ρ' 47 0 (40 * s + i) = 0) := by
  intro j
  induction j with
  | zero =>
    intro k o2 o3 ρ1 hk h1 h2 h3 hc
    have e : k = 40 := by omega
    rw [ke157_6, if_neg (by omega)]
    exact mwI_ret ⟨rfl, h1, h2, h3, e ▸ hc⟩
  | succ j ih =>
    intro k o2 o3 ρ1 hk h1 h2 h3 hc
    obtain ⟨w1, w2⟩ := w40 s k hs (by omega)
    rw [ke157_6, if_pos (by omega), w1, if_pos w2, wk k (m := 40) (by omega) (by omega), Int.toNat_natCast]
    refine ih (k + 1) _ _ _ (by omega) (fr_tr h1 (qSh_cell (by omega))) ?_ ?_ (fun i hi => ?_)
    · rw [up_ns (by decide)]; exact h2
    · rw [up_ns (by decide)]; exact h3
    · by_cases e : i = k
      · rw [e, up_eq]
      · rw [up_nk (by omega)]; exact hc i (by omega)
theorem op_sheet (d : Nat) (s so n : Int) {μ ρ : mj_M} (h : Inv μ ρ) : mw2 (kc (d + 20) 39 [v_r 0 0, v_i s, v_i so, v_i n] μ) (kc (d + 20) 157 [v_r 33 0, v_i s, v_i so, v_i n] ρ) := by
  rw [ke39_0, ke157_0, kc48, kc72, rI_some, rI_some]
  by_cases q : 0 ≤ s ∧ s ≤ 3
  · obtain ⟨k, rfl⟩ : ∃ k : Nat, s = k := ⟨s.toNat, by omega⟩
    have hb : 0 ≤ (k : Int) ∧ (k : Int) < 4 := by omega
    have hk : k < 4 := by omega
    rw [b01_t q, if_neg n10, if_neg n10, kc44, kc72, rI_some, rI_some]
    have both : ∀ so n, rg so (-1) 2 → rg n 0 40 → ∀ o2 o3, mw2 (mj_rV (kc (d + 19) 195 [v_r 19 k, v_i so, v_i n] μ) fun m5 => some (some (v_i 1), m5)) (kd (d + 19) 157 6 [some (v_r 33 0), some (v_i (k : Int)), o2, o3, some (v_i 0)] [] (mj_up (mj_up ρ 45 0 k so) 46 0 k n)) := by
      intro so n hso hn o2 o3
      obtain ⟨μ2, e3, a1, a2, a3, a4⟩ := kc195 (d + 18) k so n μ
      obtain ⟨y, ρ3, e5, rfl, c1, c2, c3, c4⟩ := kd157 (d + 19) k hk so n ρ 40 0 o2 o3 (mj_up (mj_up ρ 45 0 k so) 46 0 k n) (by omega) (fr_tr (qSh_up (Or.inl rfl)) (qSh_up (Or.inr rfl))) (by rw [up_ns (by decide), up_eq]) (up_eq _ _ _ _ _) (fun i hi => absurd hi (Nat.not_lt_zero i))
      rw [e3, rV_some]
      refine ⟨_, μ2, ρ3, rfl, e5, Inv_sheet h hk a1 c1 ⟨⟨c2.trans a2.symm, ?_⟩, ⟨c3.trans a3.symm, ?_⟩, fun i hi => ⟨(c4 i hi).trans (a4 i hi).symm, ?_⟩⟩⟩
      · rw [a2]; exact hso
      · rw [a3]; exact hn
      · rw [a4 i hi]; exact mj_n0
    by_cases q2 : -1 ≤ so ∧ so ≤ 2
    · rw [b01_t q2, if_neg n10, if_neg n10]
      by_cases q3 : so = -1
      · rw [if_pos q3, if_pos q3, if_pos q3, if_pos hb, ke157_3, if_pos hb, if_pos q3, if_pos hb, Int.toNat_natCast, q3]
        exact both (-1) 0 ⟨by decide, by decide⟩ ⟨by decide, by decide⟩ _ _
      · rw [if_neg q3, if_neg q3, if_neg q3]
        by_cases q4 : 40 < n
        · rw [if_pos q4, if_pos q4]; exact mw2_same _ h
        · rw [if_neg q4, if_neg q4]
          by_cases q5 : n < 0
          · rw [if_pos q5, if_pos q5]; exact mw2_same _ h
          · rw [if_neg q5, if_neg q5, if_pos hb, ke157_3, if_pos hb, if_neg q3, if_pos hb, Int.toNat_natCast]
            exact both so n q2 ⟨by omega, by omega⟩ _ _
    · rw [b01_f q2, if_pos rfl, if_pos rfl]; exact mw2_same _ h
  · rw [b01_f q, if_pos rfl, if_pos rfl]; exact mw2_same _ h
def pCut (so v : Int) : Int := if so = 0 then (v + 128) % 256 - 128 else if so = 1 then (v + 32768) % 65536 - 32768 else v
theorem pCut_in {so v : Int} (h : mj_n32 v) : mj_n32 (pCut so v) := by
  unfold pCut
  split
  · exact mj_i2b.2
  · split
    · exact mj_i2s.2
    · exact h
theorem op_cell (d : Nat) (s i v : Int) (hv : mj_n32 v) {μ ρ : mj_M} (h : Inv μ ρ) : mw2 (kc (d + 20) 40 [v_r 0 0, v_i s, v_i i, v_i v] μ) (kc (d + 20) 158 [v_r 33 0, v_i s, v_i i, v_i v] ρ) := by
  rw [ke40_0, ke158_0, kc48, kc72, rI_some, rI_some]
  by_cases q : 0 ≤ s ∧ s ≤ 3
  · obtain ⟨k, rfl⟩ : ∃ k : Nat, s = k := ⟨s.toNat, by omega⟩
    have hb : 0 ≤ (k : Int) ∧ (k : Int) < 4 := by omega
    have hk : k < 4 := by omega
    obtain ⟨⟨h1, h1'⟩, ⟨h2, h2'⟩, h3⟩ := Inv_sh h k hk
    unfold rg at h2'
    have hw : mj_w (μ 19 k 1 - 1) = μ 19 k 1 - 1 := wi (by omega) (by omega)
    rw [b01_t q, if_neg n10, if_neg n10, if_pos hb, if_pos hb, Int.toNat_natCast, kc194, rI_some, h1]
    by_cases q1 : μ 19 k 0 = -1
    · rw [b01_t q1, if_neg n10, if_pos q1]; exact mw2_same _ h
    · rw [b01_f q1, if_pos rfl, if_pos hb, if_neg q1, if_pos hb, h2, hw, kc44, kc72, rI_some, rI_some]
      by_cases q2 : 0 ≤ i ∧ i ≤ μ 19 k 1 - 1
      · obtain ⟨j, rfl⟩ : ∃ j : Nat, i = j := ⟨i.toNat, by omega⟩
        have hj : j < 40 := by omega
        have hb40 : 0 ≤ (j : Int) ∧ (j : Int) < 40 := by omega
        obtain ⟨w1, w2⟩ := w40 k j hk hj
        have fin : mw2 (some (some (v_i 1), mj_up μ 20 k j (pCut (μ 19 k 0) v))) (some (some (v_i 1), mj_up ρ 47 0 (40 * k + j) (pCut (μ 19 k 0) v))) := by
          refine ⟨_, _, _, rfl, rfl, Inv_sheet h hk (pSh_up (Or.inr rfl)) (qSh_cell hj) ⟨?_, ?_, fun i hi => ?_⟩⟩
          · rw [up_ns (by decide), up_ns (by decide)]; exact ⟨h1, h1'⟩
          · rw [up_ns (by decide), up_ns (by decide)]; exact ⟨h2, h2'⟩
          · by_cases e : i = j
            · rw [e, up_eq, up_eq]; exact ⟨rfl, pCut_in hv⟩
            · rw [up_nk e, up_nk (by omega)]; exact h3 i hi
        unfold pCut at fin
        rw [b01_t q2, if_neg n10, if_neg n10, if_pos hb, if_pos hb, if_pos hb, h1, w1, if_pos w2, if_pos w2, if_pos w2, ke196_0, if_pos hb40, if_pos hb40, if_pos hb40, Int.toNat_natCast, Int.toNat_natCast]
        by_cases s0 : μ 19 k 0 = 0
        · rw [if_pos s0] at fin
          rw [if_pos s0, if_pos s0, rV_some]; exact fin
        · rw [if_neg s0] at fin
          rw [if_neg s0, if_neg s0]
          by_cases s1 : μ 19 k 0 = 1
          · rw [if_pos s1] at fin
            rw [if_pos s1, if_pos s1, rV_some]; exact fin
          · rw [if_neg s1] at fin
            rw [if_neg s1, if_neg s1, rV_some]; exact fin
      · rw [b01_f q2, if_pos rfl, if_pos rfl]; exact mw2_same _ h
  · rw [b01_f q, if_pos rfl, if_pos rfl]; exact mw2_same _ h
