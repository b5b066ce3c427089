/-! what a text says, worked out by a pile: one meaning for both -/
def pTwo (c x y : Int) : Int :=
  if c = 11 then (if x = 0 then (if y = 0 then 0 else 1) else 1) else if c = 12 then (if x = 0 then 0 else (if y = 0 then 0 else 1)) else if c = 14 then (if x < y then 1 else 0) else if c = 15 then (if x = y then 1 else 0) else if c = 16 then mj_w (x + y) else if c = 17 then mj_w (x - y) else mj_w (x * y)
def pPush (c : Int) : Prop := 100000 ≤ c ∨ c < 11
def pStep (nm : Nat → Int) (c : Int) (st : List Int) : List Int :=
  if 100000 ≤ c then (c - 100000) :: st else if c < 11 then nm c.toNat :: st else if c = 13 then (match st with | x :: t => (if x = 0 then 1 else 0) :: t | [] => []) else if c = 19 then (match st with | x :: t => mj_w (-x) :: t | [] => []) else (match st with | y :: x :: t => pTwo c x y :: t | t => t)
def pRun (nm : Nat → Int) : List Int → List Int → List Int
  | [], st => st
  | c :: r, st => pRun nm r (pStep nm c st)
def pTop (st : List Int) : Int := match st with
  | x :: _ => x
  | [] => 0
def pVal (nm : Nat → Int) (pr : List Int) : Int := pTop (pRun nm pr [])
/-- codes as they may stand -/
def pCode (c : Int) : Prop := (100000 ≤ c ∧ c ≤ 109999) ∨ (0 ≤ c ∧ c < 6) ∨ (11 ≤ c ∧ c ≤ 19)
/-- a program that never goes below its pile, nor above 32, and leaves one -/
def pOK : List Int → Nat → Prop
  | [], k => k = 1
  | c :: r, k => pCode c ∧ (if 100000 ≤ c then k < 32 ∧ pOK r (k + 1) else if c < 11 then k < 32 ∧ pOK r (k + 1) else if c = 13 then 0 < k ∧ pOK r k else if c = 19 then 0 < k ∧ pOK r k else 1 < k ∧ pOK r (k - 1))
def seg (f : Nat → Int) (a : Nat) : Nat → List Int
  | 0 => []
  | n + 1 => f a :: seg f (a + 1) n
/-- a row of numbers holds a pile, the top last -/
def rep (f : Nat → Int) : List Int → Prop
  | [] => True
  | x :: t => f t.length = x ∧ rep f t
theorem rep_cg {f g : Nat → Int} : ∀ {t : List Int}, (∀ i, i < t.length → g i = f i) → rep f t → rep g t
  | [], _, _ => trivial
  | x :: t, h, hr => ⟨(h t.length (Nat.lt_succ_self _)).trans hr.1, rep_cg (fun i hi => h i (Nat.lt_succ_of_lt hi)) hr.2⟩
theorem rep_up {μ : mj_M} {s i n : Nat} {x : Int} {t : List Int} (h : rep (μ s i) t) (hn : t.length ≤ n) : rep (mj_up μ s i n x s i) t :=
  rep_cg (fun j hj => up_nk (by omega)) h
theorem rep_top {μ : mj_M} {s i : Nat} {x : Int} {t : List Int} (h : rep (μ s i) t) : rep (mj_up μ s i t.length x s i) (x :: t) := ⟨up_eq _ _ _ _ _, rep_up h (Nat.le_refl _)⟩
/-- frames by sorts -/
def fS (l : List Nat) : Nat → Nat → Nat → Bool := fun s _ _ => l.contains s
theorem fS_rd {l : List Nat} {μ μ' : mj_M} (h : fr (fS l) μ μ') {s : Nat} (hs : l.contains s = false) (i k : Nat) : μ' s i k = μ s i k := h s i k hs
theorem fS_row {l : List Nat} {μ μ' : mj_M} (h : fr (fS l) μ μ') {s : Nat} (hs : l.contains s = false) (i : Nat) : μ' s i = μ s i := funext fun k => h s i k hs
theorem fS_sub {l l' : List Nat} {μ μ' : mj_M} (h : fr (fS l) μ μ') (hl : ∀ s, l'.contains s = false → l.contains s = false) : fr (fS l') μ μ' := fr_mono h (fun s _ _ q => hl s q)
theorem kc95 (d : Nat) (c x y : Int) (μ : mj_M) (h : c ≠ 13) : kc (d + 1) 95 [v_i c, v_i x, v_i y] μ = some (some (v_i (pTwo c x y)), μ) := by
  rw [ke95_0]
  unfold pTwo
  by_cases h1 : c = 11
  · rw [if_pos h1, if_pos h1]; repeat' split
    all_goals rfl
  rw [if_neg h1, if_neg h1]
  by_cases h2 : c = 12
  · rw [if_pos h2, if_pos h2]; repeat' split
    all_goals rfl
  rw [if_neg h2, if_neg h2, if_neg h]
  by_cases h3 : c = 14
  · rw [if_pos h3, if_pos h3]; split <;> rfl
  rw [if_neg h3, if_neg h3]
  by_cases h4 : c = 15
  · rw [if_pos h4, if_pos h4]; split <;> rfl
  rw [if_neg h4, if_neg h4]
  by_cases h5 : c = 16
  · rw [if_pos h5, if_pos h5]
  rw [if_neg h5, if_neg h5]
  by_cases h6 : c = 17
  · rw [if_pos h6, if_pos h6]
  rw [if_neg h6, if_neg h6]
/-- the reference: from place k of the codes on -/
theorem kd96 (d : Nat) (p t : Nat) (g : Nat → Int) (nm : Nat → Int) (e1 : Nat) (hp : p < 3) (ht : t < 6) (h1 : e1 ≤ 160) :
    ∀ (j k : Nat) (st : List Int) (o : Option mj_V) (ρ : mj_M), k + j = e1 → ρ 33 0 16 = (t : Int) → ρ 42 0 (4 * t + p + 1) = (e1 : Int) → (∀ i, i < e1 → ρ 41 0 (200 * t + i) = g i) → (∀ i, i < 6 → ρ 52 0 i = nm i) → rep (ρ 51 0) st → pOK (seg g k j) st.length → st.length ≤ 32 →
      mwI (kd (d + 1) 96 1 [some (v_r 33 0), some (v_i (p : Int)), some (v_i (st.length : Int)), some (v_i (k : Int)), o] [] ρ) (fun x ρ' => x = pTop (pRun nm (seg g k j) st) ∧ fr (fS [51]) ρ ρ') := by
  intro j
  induction j with
  | zero =>
    intro k st o ρ hk hrule hs hc hnm hr hok hl
    have e : mj_w (mj_w (mj_w (4 * (t : Int)) + (p : Int)) + 1) = ((4 * t + p + 1 : Nat) : Int) := by
      rw [wi (z := 4 * (t : Int)) (by omega) (by omega), wi (z := 4 * (t : Int) + (p : Int)) (by omega) (by omega), wi (by omega) (by omega)]; omega
    rw [ke96_1, hrule, e, if_pos (by omega), Int.toNat_natCast, hs, if_neg (by omega)]
    refine mwI_ret ⟨?_, fr_rf⟩
    have hst : st.length = 1 := hok
    match st, hst, hr with
    | [x], _, hr => exact hr.1
  | succ j ih =>
    intro k st o ρ hk hrule hs hc hnm hr hok hl
    have e : mj_w (mj_w (mj_w (4 * (t : Int)) + (p : Int)) + 1) = ((4 * t + p + 1 : Nat) : Int) := by
      rw [wi (z := 4 * (t : Int)) (by omega) (by omega), wi (z := 4 * (t : Int) + (p : Int)) (by omega) (by omega), wi (by omega) (by omega)]; omega
    have e2 : mj_w (mj_w (200 * (t : Int)) + (k : Int)) = ((200 * t + k : Nat) : Int) := by
      rw [wi (z := 200 * (t : Int)) (by omega) (by omega), wi (by omega) (by omega)]; omega
    have hgk := hc k (by omega)
    obtain ⟨hcode, hok⟩ := hok
    rw [ke96_1, hrule, e, if_pos (by omega), Int.toNat_natCast, hs, if_pos (by omega), e2, if_pos (by omega), Int.toNat_natCast, hgk]
    have next : ∀ (st' : List Int) (o' : Option mj_V) (s' : Nat) (x' : Int), s' < 200 → rep (mj_up ρ 51 0 s' x' 51 0) st' → pOK (seg g (k + 1) j) st'.length → st'.length ≤ 32 → pRun nm (seg g k (j + 1)) st = pRun nm (seg g (k + 1) j) st' →
        mwI (kd (d + 1) 96 1 [some (v_r 33 0), some (v_i (p : Int)), some (v_i (st'.length : Int)), some (v_i (mj_w ((k : Int) + 1))), o'] [] (mj_up ρ 51 0 s' x')) (fun x ρ' => x = pTop (pRun nm (seg g k (j + 1)) st) ∧ fr (fS [51]) ρ ρ') := by
      intro st' o' s' x' hs' hr' hok' hl' he
      rw [he, wi (z := (k : Int) + 1) (by omega) (by omega), show (k : Int) + 1 = ((k + 1 : Nat) : Int) by omega]
      refine mwI_mono (ih (k + 1) st' o' _ (by omega) ?_ ?_ (fun i hi => ?_) (fun i hi => ?_) hr' hok' hl') (fun x ρ' h => ⟨h.1, fr_tr (fr_up rfl) h.2⟩)
      · rw [up_ns (by decide)]; exact hrule
      · rw [up_ns (by decide)]; exact hs
      · rw [up_ns (by decide)]; exact hc i hi
      · rw [up_ns (by decide)]; exact hnm i hi
    have hrun : pRun nm (seg g k (j + 1)) st = pRun nm (seg g (k + 1) j) (pStep nm (g k) st) := rfl
    by_cases hbig : 100000 ≤ g k
    · rw [if_pos hbig] at hok
      rw [if_neg (by omega), ke96_2, if_neg (by omega), if_pos (by omega), Int.toNat_natCast]
      have hw : mj_w (g k - 100000) = g k - 100000 := by unfold pCode at hcode; exact wi (by omega) (by omega)
      have hl1 : mj_w ((st.length : Int) + 1) = (((g k - 100000) :: st).length : Int) := by rw [wi (by omega) (by omega), List.length_cons]; omega
      rw [hw, hl1]
      exact next ((g k - 100000) :: st) none st.length _ (by omega) (rep_top hr) hok.2 (by rw [List.length_cons]; omega) (by rw [hrun]; unfold pStep; rw [if_pos hbig])
    rw [if_pos (by omega)]
    rw [if_neg hbig] at hok
    by_cases hname : g k < 11
    · rw [if_pos hname] at hok
      have hc6 : 0 ≤ g k ∧ g k < 6 := by unfold pCode at hcode; omega
      rw [if_pos hname, ke96_2, if_pos hname, if_pos (by omega), if_pos (by omega), Int.toNat_natCast, hnm _ (by omega)]
      have hl1 : mj_w ((st.length : Int) + 1) = ((nm (g k).toNat :: st).length : Int) := by rw [wi (by omega) (by omega), List.length_cons]; omega
      rw [hl1]
      exact next (nm (g k).toNat :: st) none st.length _ (by omega) (rep_top hr) hok.2 (by rw [List.length_cons]; omega) (by rw [hrun]; unfold pStep; rw [if_neg hbig, if_pos hname])
    rw [if_neg hname]
    rw [if_neg hname] at hok
    by_cases h13 : g k = 13
    · rw [if_pos h13] at hok
      match st, hr, hok, hl, next, hrun with
      | [], _, hok, _, _, _ => exact absurd hok.1 (by simp)
      | x :: tl, hr, hok, hl, next, hrun =>
        have hlen : ((x :: tl).length : Int) = ((tl.length + 1 : Nat) : Int) := by rw [List.length_cons]
        have hw1 : mj_w (((x :: tl).length : Int) - 1) = (tl.length : Int) := by rw [hlen, wi (by omega) (by rw [List.length_cons] at hl; omega)]; omega
        rw [if_pos h13, hw1, if_pos (by rw [List.length_cons] at hl; omega), Int.toNat_natCast, hr.1]
        have hstep : pStep nm (g k) (x :: tl) = (if x = 0 then 1 else 0) :: tl := by unfold pStep; rw [if_neg hbig, if_neg hname, if_pos h13]
        by_cases hx : x = 0
        · rw [if_pos hx, if_pos (by rw [List.length_cons] at hl; omega)]
          exact next (1 :: tl) none tl.length 1 (by rw [List.length_cons] at hl; omega) (rep_top hr.2) hok.2 hl (by rw [hrun, hstep, if_pos hx])
        · rw [if_neg hx, if_pos (by rw [List.length_cons] at hl; omega)]
          exact next (0 :: tl) none tl.length 0 (by rw [List.length_cons] at hl; omega) (rep_top hr.2) hok.2 hl (by rw [hrun, hstep, if_neg hx])
    rw [if_neg h13]
    rw [if_neg h13] at hok
    by_cases h19 : g k = 19
    · rw [if_pos h19] at hok
      match st, hr, hok, hl, next, hrun with
      | [], _, hok, _, _, _ => exact absurd hok.1 (by simp)
      | x :: tl, hr, hok, hl, next, hrun =>
        have hlen : ((x :: tl).length : Int) = ((tl.length + 1 : Nat) : Int) := by rw [List.length_cons]
        have hw1 : mj_w (((x :: tl).length : Int) - 1) = (tl.length : Int) := by rw [hlen, wi (by omega) (by rw [List.length_cons] at hl; omega)]; omega
        have hstep : pStep nm (g k) (x :: tl) = mj_w (-x) :: tl := by unfold pStep; rw [if_neg hbig, if_neg hname, if_neg h13, if_pos h19]
        rw [if_pos h19, hw1, if_pos (by rw [List.length_cons] at hl; omega), if_pos (by rw [List.length_cons] at hl; omega), Int.toNat_natCast, hr.1]
        exact next (mj_w (-x) :: tl) none tl.length _ (by rw [List.length_cons] at hl; omega) (rep_top hr.2) hok.2 hl (by rw [hrun, hstep])
    rw [if_neg h19]
    rw [if_neg h19] at hok
    match st, hr, hok, hl, next, hrun with
    | [], _, hok, _, _, _ => exact absurd hok.1 (by simp)
    | [_], _, hok, _, _, _ => exact absurd hok.1 (by simp)
    | y :: x :: tl, hr, hok, hl, next, hrun =>
      have hlen : ((y :: x :: tl).length : Int) = ((tl.length + 2 : Nat) : Int) := by rw [List.length_cons, List.length_cons]
      have hl' : tl.length + 2 ≤ 32 := hl
      have hw1 : mj_w (((y :: x :: tl).length : Int) + -1) = ((tl.length + 1 : Nat) : Int) := by rw [hlen, wi (by omega) (by omega)]; omega
      have hw2 : mj_w (((tl.length + 1 : Nat) : Int) - 1) = (tl.length : Int) := by rw [wi (by omega) (by omega)]; omega
      have hstep : pStep nm (g k) (y :: x :: tl) = pTwo (g k) x y :: tl := by unfold pStep; rw [if_neg hbig, if_neg hname, if_neg h13, if_neg h19]
      rw [hw1, hw2, if_pos (by omega), if_pos (by omega), Int.toNat_natCast, Int.toNat_natCast, hr.2.1, show ρ 51 0 (tl.length + 1) = y from hr.1, kc95 d _ _ _ _ h13, rI_some, if_pos (by omega)]
      exact next (pTwo (g k) x y :: tl) none tl.length _ (by omega) (rep_top hr.2.2) hok.2 (by rw [List.length_cons]; omega) (by rw [hrun, hstep])
