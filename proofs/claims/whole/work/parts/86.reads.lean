/-! tokens depend on the text alone -/
theorem sk_cg {T U : Nat → Int} : ∀ j p, (∀ i, i < p + j → T i = U i) → sk T j p = sk U j p
  | 0, _, _ => rfl
  | j + 1, p, h => by
    unfold sk
    rw [h p (by omega), sk_cg j (p + 1) (fun i hi => h i (by omega))]
theorem rn_cg {T U : Nat → Int} (lo hi : Int) : ∀ j p, (∀ i, i < p + j → T i = U i) → rn T lo hi j p = rn U lo hi j p
  | 0, _, _ => rfl
  | j + 1, p, h => by
    unfold rn
    rw [h p (by omega), rn_cg lo hi j (p + 1) (fun i hi => h i (by omega))]
theorem nv_cg {T U : Nat → Int} : ∀ j p v, (∀ i, i < p + j → T i = U i) → nv T j p v = nv U j p v
  | 0, _, _, _ => rfl
  | j + 1, p, v, h => by
    rw [nv_s, nv_s, h p (by omega), nv_cg j (p + 1) _ (fun i hi => h i (by omega))]
theorem lS_cg {T U : Nat → Int} {z p : Nat} (hp : p ≤ z) (h : ∀ i, i < z → T i = U i) : lS T z p = lS U z p := sk_cg _ _ (fun i hi => h i (by omega))
theorem lE_cg {T U : Nat → Int} {z p : Nat} (hp : p ≤ z) (h : ∀ i, i < z → T i = U i) : lE T z p = lE U z p := by
  unfold lE
  rw [← lS_cg hp h]
  have hs := lS_b (T := T) hp
  by_cases q : lS T z p = z
  · rw [if_pos q, if_pos q]
  · rw [if_neg q, if_neg q, ← h (lS T z p) (by omega), rn_cg 97 122 (z - lS T z p) (lS T z p) (fun i hi => h i (by omega)), rn_cg 48 57 (z - lS T z p) (lS T z p) (fun i hi => h i (by omega))]
theorem pd_cg {T U : Nat → Int} {z s e : Nat} (he : e ≤ z) (h : ∀ i, i < z → T i = U i) : pd T s e = pd U s e := by
  funext i
  unfold pd
  by_cases q : s + i < e
  · rw [if_pos q, if_pos q, h _ (by omega)]
  · rw [if_neg q, if_neg q]
theorem lK_cg {T U : Nat → Int} {z p : Nat} (hp : p ≤ z) (h : ∀ i, i < z → T i = U i) : lK T z p = lK U z p := by
  have hs := lS_b (T := T) hp
  have he := (lE_b (T := T) hp).2.1
  unfold lK wC
  rw [← lS_cg hp h, ← lE_cg hp h, ← pd_cg (s := lS T z p) he h]
  by_cases q : lS T z p = z
  · rw [if_pos q, if_pos q]
  · rw [if_neg q, if_neg q, ← h (lS T z p) (by omega)]
theorem lV_cg {T U : Nat → Int} {z p : Nat} (hp : p ≤ z) (h : ∀ i, i < z → T i = U i) : lV T z p = lV U z p := by
  have hs := lE_b (T := T) hp
  unfold lV
  rw [← lS_cg hp h, ← lE_cg hp h]
  exact nv_cg _ _ _ (fun i hi => h i (by omega))
theorem hTk_cg {μ : mj_M} {T U : Nat → Int} {z p : Nat} (hp : p ≤ z) (h : ∀ i, i < z → T i = U i) (q : hTk μ T z p) : hTk μ U z p := by
  unfold hTk at q ⊢
  rw [← lE_cg hp h, ← lS_cg hp h, ← lK_cg hp h, ← lV_cg hp h]; exact q
theorem nTk_cg {μ : mj_M} {T U : Nat → Int} {z p : Nat} (hp : p ≤ z) (h : ∀ i, i < z → T i = U i) (q : nTk μ T z p) : nTk μ U z p := by
  unfold nTk at q ⊢
  rw [← lE_cg hp h, ← lS_cg hp h, ← lK_cg hp h, ← lV_cg hp h]; exact q
/-! reading a text: what is promised of each way to read -/
def fP : Nat → Nat → Nat → Bool := fun s _ k => (s == 14 && (k == 4 || (k == 5 || (k == 6 || (k == 7 || k == 8))))) || s == 16
theorem fL_fP {μ μ' : mj_M} (h : fr fL μ μ') : fr fP μ μ' := fr_no h (fun s i k q => by simp [fL] at q; simp [fP]; omega)
def bC (μ : mj_M) (T : Nat → Int) (z : Nat) : Prop := μ 14 0 1 = (z : Int) ∧ ∀ i, i < z → μ 15 0 i = T i
theorem bC_fr {μ μ' : mj_M} {T : Nat → Int} {z : Nat} (h : bC μ T z) (f : fr fP μ μ') : bC μ' T z := ⟨(f 14 0 1 rfl).trans h.1, fun i hi => (f 15 0 i rfl).trans (h.2 i hi)⟩
/-- the class behind place p, W told (the last one first) -/
def cQ (μ : mj_M) (T : Nat → Int) (z p : Nat) (W : List Int) : Prop := hTk μ T z p ∧ bC μ T z ∧ μ 14 0 4 = (W.length : Int) ∧ rep (μ 16 0) (W.map unc)
def bR (ρ : mj_M) (T : Nat → Int) (z tc : Nat) : Prop := ρ 33 0 12 = (z : Int) ∧ (∀ i, i < z → ρ 40 0 i = T i) ∧ (∀ i, i < 96 → ρ 49 0 i = Wr i) ∧ ρ 33 0 15 = (tc : Int)
theorem bR_fr {ρ ρ' : mj_M} {T : Nat → Int} {z tc : Nat} (h : bR ρ T z tc) (f : fr (fQ tc) ρ ρ') : bR ρ' T z tc := ⟨(fQ_at f rfl).trans h.1, fun i hi => (f 40 0 i (by simp [fQ])).trans (h.2.1 i hi), fun i hi => (f 49 0 i (by simp [fQ])).trans (h.2.2.1 i hi), (fQ_at f rfl).trans h.2.2.2⟩
/-- the reference behind place p; and with its next token read -/
def qQ (ρ : mj_M) (T : Nat → Int) (z tc p : Nat) (S : List Int) (o : Nat) (W : List Int) : Prop := bR ρ T z tc ∧ ρ 33 0 30 = (p : Int) ∧ sQ tc ρ S o W
def aQ (ρ : mj_M) (T : Nat → Int) (z tc p : Nat) (S : List Int) (o : Nat) (W : List Int) : Prop := bR ρ T z tc ∧ nTk ρ T z p ∧ sQ tc ρ S o W
theorem aQ_q {ρ : mj_M} {T : Nat → Int} {z tc p : Nat} {S W : List Int} {o : Nat} (h : aQ ρ T z tc p S o W) : qQ ρ T z tc (lE T z p) S o W := ⟨h.1, h.2.1.1, h.2.2⟩
theorem aQ_u {ρ ρ' : mj_M} {T : Nat → Int} {z tc p : Nat} {S W S' W' : List Int} {o o' : Nat} (h : aQ ρ T z tc p S o W) (f : fr (fU tc) ρ ρ') (s : sQ tc ρ' S' o' W') : aQ ρ' T z tc p S' o' W' := by
  obtain ⟨h1, ⟨n1, n2, n3, n4, n5, n6⟩, -⟩ := h
  refine ⟨bR_fr h1 (fU_fQ f), ⟨?_, ?_, ?_, fun w => ?_, fun w w' => ?_, fun w => ?_⟩, s⟩
  · rw [fU_at f rfl]; exact n1
  · rw [fU_at f rfl]; exact n2
  · rw [fU_at f rfl]; exact n3
  · rw [fU_at f rfl]; exact n4 w
  · rw [fU_at f rfl]; exact n5 w w'
  · rw [fU_at f rfl]; exact n6 w
theorem nextR (d : Nat) {ρ : mj_M} {T : Nat → Int} {z tc p : Nat} {S W : List Int} {o : Nat} (hz : z ≤ 160) (hp : p ≤ z) (h : qQ ρ T z tc p S o W) : mwV (kc (d + 2) 85 [v_r 33 0] ρ) (fun ρ' => aQ ρ' T z tc p S o W ∧ fr (fQ tc) ρ ρ') := by
  obtain ⟨⟨h1, h2, h3, h4⟩, h5, h6⟩ := h
  exact mwV_mono (kc85 d z p (ρ 40 0) hz hp ρ h1 h5 (fun _ => rfl) h3) (fun ρ' g => ⟨⟨bR_fr ⟨h1, h2, h3, h4⟩ (fN_fQ g.2), nTk_cg hp h2 g.1, sQ_fN h6 g.2⟩, fN_fQ g.2⟩)
theorem stepC (d : Nat) {μ : mj_M} {T : Nat → Int} {z p : Nat} {W : List Int} (hz : z ≤ 160) (hp : p ≤ z) (h : cQ μ T z p W) : mwV (kc (d + 4) 208 [v_r 14 0] μ) (fun μ' => cQ μ' T z (lE T z p) W ∧ fr fP μ μ') := by
  obtain ⟨h1, h2, h3, h4⟩ := h
  refine mwV_mono (kc208 d z (lE T z p) (μ 15 0) hz (lE_b (T := T) hp).2.1 μ h2.1 h1.1 (fun _ => rfl)) (fun μ' g => ⟨⟨hTk_cg (lE_b (T := T) hp).2.1 h2.2 g.1, bC_fr h2 (fL_fP g.2), ?_, ?_⟩, fL_fP g.2⟩)
  · rw [g.2 14 0 4 rfl]; exact h3
  · exact rep_cg (fun i _ => g.2 16 0 i rfl) h4
def fT4 : Nat → Nat → Nat → Bool := fun s _ k => (s == 14 && k == 4) || s == 16
theorem tellC (d : Nat) (c : Int) {μ : mj_M} {T : Nat → Int} {z p : Nat} {W : List Int} (hW : W.length < 160) (h : cQ μ T z p W) : mwV (kc (d + 1) 200 [v_r 14 0, v_i (unc c)] μ) (fun μ' => cQ μ' T z p (c :: W) ∧ fr fP μ μ') := by
  obtain ⟨⟨a1, a2, a3, a4⟩, h2, h3, h4⟩ := h
  have hlt : (W.length : Int) < 160 := Int.ofNat_lt.mpr hW
  rw [ke200_0, h3, if_pos hlt, if_pos ⟨Int.natCast_nonneg _, hlt⟩, Int.toNat_natCast, wk W.length hW (by decide)]
  have f : fr fP μ (mj_up (mj_up μ 16 0 W.length (unc c)) 14 0 4 ((W.length + 1 : Nat) : Int)) := fr_tr (fr_up rfl) (fr_up rfl)
  refine mwV_ret ⟨⟨⟨?_, ?_, ?_, fun w => ?_⟩, bC_fr h2 f, up_eq _ _ _ _ _, ⟨?_, ?_⟩⟩, f⟩
  · rw [up_nk (by decide), up_ns (by decide)]; exact a1
  · rw [up_nk (by decide), up_ns (by decide)]; exact a2
  · rw [up_nk (by decide), up_ns (by decide)]; exact a3
  · rw [up_nk (by decide), up_ns (by decide)]; exact a4 w
  · rw [up_ns (by decide), List.length_map, up_eq]
  · refine rep_cg (fun i hi => ?_) h4
    rw [List.length_map] at hi
    rw [up_ns (by decide), up_nk (Nat.ne_of_lt hi)]
/-- a failed way to read: telling on does no harm -/
def xC (μ : mj_M) (f : Nat) : Prop := μ 14 0 6 = (f : Int) ∧ 0 ≤ μ 14 0 4
theorem tellX (d f : Nat) (c : Int) {μ : mj_M} (h : xC μ f) : mwV (kc (d + 1) 200 [v_r 14 0, v_i c] μ) (fun μ' => xC μ' f ∧ fr fP μ μ') := by
  rw [ke200_0]
  by_cases q : μ 14 0 4 < 160
  · rw [if_pos q, if_pos ⟨h.2, q⟩]
    refine mwV_ret ⟨⟨?_, ?_⟩, fr_tr (fr_up rfl) (fr_up rfl)⟩
    · rw [up_nk (by decide), up_ns (by decide)]; exact h.1
    · rw [up_eq]
      have h2 := h.2
      generalize μ 14 0 4 = x at q h2
      rw [wi (by omega) (by omega)]; omega
  · rw [if_neg q]; exact mwV_ret ⟨h, fr_rf⟩
theorem cQ_x {μ : mj_M} {T : Nat → Int} {z p : Nat} {W : List Int} (h : cQ μ T z p W) : xC μ (lS T z p) := ⟨h.1.2.1, by rw [h.2.2.1]; exact Int.natCast_nonneg _⟩
/-- what came of a way to read: a fault, or where it ends and what it told (the last one first) -/
def Res : Type := Nat ⊕ (Nat × List Int)
def rC (T : Nat → Int) (z : Nat) (x : Int) (μ : mj_M) (res : Res) (W : List Int) : Prop := match res with
  | .inl f => x = 0 ∧ xC μ f
  | .inr (q, R) => x = 1 ∧ cQ μ T z q (R ++ W)
/-- the class, by method y, that needs dep -/
def dCl (T : Nat → Int) (z y o p dep : Nat) (res : Res) : Prop := ∀ (d : Nat) (W : List Int) (μ : mj_M), dep ≤ d → W.length ≤ p → cQ μ T z p W → mwI (kc d y [v_r 14 0, v_i (o : Int)] μ) (fun x μ' => rC T z x μ' res W ∧ fr fP μ μ')
def mnO (T : Nat → Int) (z L p : Nat) (mn : Int) : Prop := if L ≤ 3 then mn = 1 else (lK T z p = 5 → mn = 0)
def isCm (T : Nat → Int) (z q : Nat) : Prop := lK T z q = 60 ∨ lK T z q = 61
def ctxL (L : Nat) : Int := if L = 3 then 4 else (L : Int)
/-- of what waits on the pile: a comparison, where one would come next -/
def p4 (T : Nat → Int) (z L q : Nat) (K : List Int) : Prop := L ≤ 3 → isCm T z q → ∃ K1 c K2, K = K1 ++ c :: K2 ∧ (∀ x, x ∈ K1 → 5 ≤ rkS x) ∧ rkS c = 4
/-- the reference, behind a way to read: Q of a fault, or of what follows -/
def goX (T : Nat → Int) (z tc L o : Nat) (H W : List Int) (ρ : mj_M) (d : Nat) (Q : Int → mj_M → Prop) (res : Res) : Prop := match res with
  | .inl f => ∀ ρ' : mj_M, ρ' 33 0 31 = (f : Int) → fr (fQ tc) ρ ρ' → Q 0 ρ'
  | .inr (q, R) => ∀ K R0 (ρ' : mj_M) (mn' : Int) (o3' : Option mj_V), R = K.reverse ++ R0 → (∀ c, c ∈ K → (L : Int) ≤ rkS c) → p4 T z L q K → o + cntO K ≤ 5 → qQ ρ' T z tc q (K ++ H) (o + cntO K) (R0 ++ W) → (K ++ H).length + (R0 ++ W).length ≤ q → fr (fQ tc) ρ ρ' → mwI (kd (d + 9) 93 1 [some (v_r 33 0), some (v_i 0), some (v_i mn'), o3'] [] ρ') Q
def dRX (T : Nat → Int) (z tc L o p : Nat) (res : Res) : Prop := ∀ (d : Nat) (H W : List Int) (ρ : mj_M) (mn : Int) (o3 : Option mj_V) (Q : Int → mj_M → Prop), H.length + W.length ≤ p → mnO T z L p mn → topO H (ctxL L) → qQ ρ T z tc p H o W → goX T z tc L o H W ρ d Q res → mwI (kd (d + 9) 93 1 [some (v_r 33 0), some (v_i 1), some (v_i mn), o3] [] ρ) Q
/-- of a ONE: behind it no - waits -/
def go1 (T : Nat → Int) (z tc o0 : Nat) (M H W : List Int) (ρ : mj_M) (d : Nat) (Q : Int → mj_M → Prop) (res : Res) : Prop := match res with
  | .inl f => ∀ ρ' : mj_M, ρ' 33 0 31 = (f : Int) → fr (fQ tc) ρ ρ' → Q 0 ρ'
  | .inr (q, R) => ∀ (ρ' : mj_M) (mn' : Int) (o3' : Option mj_V), qQ ρ' T z tc q H o0 (M.reverse ++ (R ++ W)) → H.length + (M.reverse ++ (R ++ W)).length ≤ q → fr (fQ tc) ρ ρ' → mwI (kd (d + 9) 93 1 [some (v_r 33 0), some (v_i 0), some (v_i mn'), o3'] [] ρ') Q
def dR1 (T : Nat → Int) (z tc o p : Nat) (res : Res) : Prop := ∀ (d : Nat) (M H W : List Int) (o0 : Nat) (ρ : mj_M) (mn : Int) (o3 : Option mj_V) (Q : Int → mj_M → Prop), o = o0 + M.length → (∀ c, c ∈ M → c = 19) → (M ++ H).length + W.length ≤ p → mnO T z 7 p mn → topO H 7 → qQ ρ T z tc p (M ++ H) o W → go1 T z tc o0 M H W ρ d Q res → mwI (kd (d + 9) 93 1 [some (v_r 33 0), some (v_i 1), some (v_i mn), o3] [] ρ) Q
/-- which token ends a way to read -/
def stopT (T : Nat → Int) (z L q : Nat) : Prop := (L ≤ 6 → lK T z q ≠ 42) ∧ (L ≤ 5 → lK T z q ≠ 43 ∧ lK T z q ≠ 45) ∧ (L ≤ 2 → lK T z q ≠ 4) ∧ (L ≤ 1 → lK T z q ≠ 3)
/-- how deep a pile of numbers it needs -/
def dpt (L o : Nat) : Nat := 1 + 5 * (5 - o) + (if L = 7 then 0 else if L = 6 then 1 else if L = 5 then 2 else if L = 3 then 3 else if L = 2 then 4 else 5)
def vRs (T : Nat → Int) (z L o p : Nat) (res : Res) : Prop := match res with
  | .inl _ => True
  | .inr (q, R) => p + R.length ≤ q ∧ p < q ∧ q ≤ z ∧ (∀ k rest, k + dpt L o ≤ 32 → pOK rest (k + 1) → pOK (R.reverse ++ rest) k) ∧ stopT T z L q
/-- how many calls may stand open -/
def dep (L o : Nat) : Nat := 7 + 7 * (5 - o) + (if L = 7 then 0 else if L = 6 then 1 else if L = 5 then 2 else if L = 3 then 3 else if L = 2 then 4 else 5)
def mth (L : Nat) : Nat := if L = 7 then 206 else if L = 6 then 205 else if L = 5 then 204 else if L = 3 then 203 else if L = 2 then 202 else 201
/-- a way to read is read alike -/
def Sim (T : Nat → Int) (z tc L o p : Nat) : Prop := ∃ res : Res, dCl T z (mth L) o p (dep L o) res ∧ vRs T z L o p res ∧ (if L = 7 then dR1 T z tc o p res else dRX T z tc L o p res)
/-- tokens, by the two sides' numbers -/
theorem rt_i {c : Int} (h : isTk c) : ((rt c = 1 ↔ c = 13) ∧ (rt c = 2 ↔ 6 ≤ c ∧ c < 12) ∧ (rt c = 6 ↔ c = 5) ∧ (rt c = 45 ↔ c = 45) ∧ (rt c = 40 ↔ c = 40) ∧ (rt c = 59 ↔ c = 59) ∧ (rt c = 41 ↔ c = 41)) ∧ ((rt c = 4 ↔ c = 3) ∧ (rt c = 5 ↔ c = 4) ∧ (rt c = 60 ↔ c = 60) ∧ (rt c = 61 ↔ c = 61) ∧ (rt c = 43 ↔ c = 43) ∧ (rt c = 42 ↔ c = 42) ∧ (rt c = 3 ↔ 0 ≤ c ∧ c < 3) ∧ (rt c = 0 ↔ c = 14)) := by
  unfold isTk isSg at h
  unfold rt
  split
  · omega
  split
  · omega
  split
  · omega
  split
  · omega
  split
  · omega
  split
  · omega
  · omega
/-- the reference's sign for a token between two -/
def sgn (c : Int) : Int := if c = 3 then 11 else if c = 4 then 12 else if c = 60 then 14 else if c = 61 then 15 else if c = 43 then 16 else if c = 45 then 17 else if c = 42 then 18 else -1
theorem kc92 (d : Nat) {ρ : mj_M} {c : Int} (hc : isTk c) (h : ρ 33 0 32 = rt c) : kc (d + 1) 92 [v_r 33 0] ρ = some (some (v_i (sgn c)), ρ) := by
  obtain ⟨⟨-, -, -, i45, -⟩, ⟨i4, i5, i60, i61, i43, i42, -⟩⟩ := rt_i hc
  rw [ke92_0, h]
  unfold sgn
  by_cases q1 : c = 3
  · rw [if_pos (i4.2 q1), if_pos q1]
  rw [if_neg (fun w => q1 (i4.1 w)), if_neg q1]
  by_cases q2 : c = 4
  · rw [if_pos (i5.2 q2), if_pos q2]
  rw [if_neg (fun w => q2 (i5.1 w)), if_neg q2]
  by_cases q3 : c = 60
  · rw [if_pos (i60.2 q3), if_pos q3]
  rw [if_neg (fun w => q3 (i60.1 w)), if_neg q3]
  by_cases q4 : c = 61
  · rw [if_pos (i61.2 q4), if_pos q4]
  rw [if_neg (fun w => q4 (i61.1 w)), if_neg q4]
  by_cases q5 : c = 43
  · rw [if_pos (i43.2 q5), if_pos q5]
  rw [if_neg (fun w => q5 (i43.1 w)), if_neg q5]
  by_cases q6 : c = 45
  · rw [if_pos (i45.2 q6), if_pos q6]
  rw [if_neg (fun w => q6 (i45.1 w)), if_neg q6]
  by_cases q7 : c = 42
  · rw [if_pos (i42.2 q7), if_pos q7]
  rw [if_neg (fun w => q7 (i42.1 w)), if_neg q7]
/-- the reference behind an operand: a sign between two -/
theorem sign_R (d : Nat) {T : Nat → Int} {z tc q o : Nat} {K H W : List Int} {ρ : mj_M} {mn : Int} {o3 : Option mj_V} {Q : Int → mj_M → Prop} (hz : z ≤ 160) (h6 : tc < 6) (hq : q ≤ z) (hl : (K ++ H).length + W.length ≤ q) (ho : o + cntO K ≤ 5) (h : qQ ρ T z tc q (K ++ H) (o + cntO K) W) (hs : sgn (lK T z q) ≠ -1) (hK : ∀ c, c ∈ K → lvS (sgn (lK T z q)) ≤ rkS c) (hH : topO H (lvS (sgn (lK T z q)))) (hc : rkS (sgn (lK T z q)) = 4 → noCmp H)
    (k : ∀ (ρ' : mj_M), qQ ρ' T z tc (lE T z q) (sgn (lK T z q) :: H) o (K.reverse ++ W) → (sgn (lK T z q) :: H).length + (K.reverse ++ W).length ≤ lE T z q → fr (fQ tc) ρ ρ' → mwI (kd (d + 9) 93 1 [some (v_r 33 0), some (v_i 1), some (v_i (if 12 < sgn (lK T z q) then 0 else 1)), none] [] ρ') Q) :
    mwI (kd (d + 9) 93 1 [some (v_r 33 0), some (v_i 0), some (v_i mn), o3] [] ρ) Q := by
  have hTk := lK_tk T z q
  obtain ⟨⟨-, -, -, -, -, i59, i41⟩, -⟩ := rt_i hTk
  have hE := lE_b (T := T) hq
  have hne : lS T z q ≠ z := fun w => hs (by rw [lK_end w]; decide)
  have hlt : q < lE T z q := Nat.lt_of_le_of_lt (lS_b (T := T) hq).1 (hE.2.2 hne)
  rw [ke93_1]
  refine mwI_rV (mwV_mono (nextR (d + 7) hz hq h) (fun ρ1 g => ?_))
  obtain ⟨g1, g2⟩ := g
  have n3 : ρ1 33 0 32 = rt (lK T z q) := g1.2.1.2.2.1
  have c59 : ¬ rt (lK T z q) = 59 := fun w => hs (by rw [i59.1 w]; decide)
  have c41 : ¬ rt (lK T z q) = 41 := fun w => hs (by rw [i41.1 w]; decide)
  rw [if_pos rfl, n3, if_neg c59, if_neg c41, kc92 (d + 8) hTk n3, rI_some, if_neg hs]
  have hl160 : (K ++ H).length + W.length ≤ 160 := Nat.le_trans hl (Nat.le_trans hq hz)
  have ho100 : o + cntO K ≤ 100 := Nat.le_trans ho (by decide)
  refine mwI_rI (mwI_mono (kc91 (d + 6) tc h6 (sgn (lK T z q)) hK hH hl160 ho100 g1.1.2.2.2 g1.2.2 hc) (fun x ρ2 k2 => ?_))
  obtain ⟨rfl, s2, f2⟩ := k2
  have hl2 : (sgn (lK T z q) :: H).length + (K.reverse ++ W).length ≤ lE T z q := by
    rw [List.length_cons, List.length_append, List.length_reverse]
    rw [List.length_append] at hl
    omega
  have fin := k ρ2 (aQ_q (aQ_u g1 f2 s2)) hl2 (fr_tr g2 (fU_fQ f2))
  rw [if_neg n10]
  by_cases q12 : 12 < sgn (lK T z q)
  · rw [if_pos q12] at fin
    rw [if_pos q12]; exact fin
  · rw [if_neg q12] at fin
    rw [if_neg q12]; exact fin
/-- .. a token that can't stand there -/
theorem bad_R (d : Nat) {T : Nat → Int} {z tc q o : Nat} {S W : List Int} {ρ : mj_M} {mn : Int} {o3 : Option mj_V} {Q : Int → mj_M → Prop} (hz : z ≤ 160) (hq : q ≤ z) (h : qQ ρ T z tc q S o W) (hs : sgn (lK T z q) = -1) (h59 : lK T z q ≠ 59) (h41 : lK T z q ≠ 41) (k : ∀ ρ' : mj_M, ρ' 33 0 31 = (lS T z q : Int) → fr (fQ tc) ρ ρ' → Q 0 ρ') :
    mwI (kd (d + 9) 93 1 [some (v_r 33 0), some (v_i 0), some (v_i mn), o3] [] ρ) Q := by
  have hTk := lK_tk T z q
  obtain ⟨⟨-, -, -, -, -, i59, i41⟩, -⟩ := rt_i hTk
  rw [ke93_1]
  refine mwI_rV (mwV_mono (nextR (d + 7) hz hq h) (fun ρ1 g => ?_))
  obtain ⟨g1, g2⟩ := g
  have n3 : ρ1 33 0 32 = rt (lK T z q) := g1.2.1.2.2.1
  rw [if_pos rfl, n3, if_neg (fun w => h59 (i59.1 w)), if_neg (fun w => h41 (i41.1 w)), kc92 (d + 8) hTk n3, rI_some, if_pos hs]
  exact mwI_ret (k ρ1 g1.2.1.2.1 g2)
/-- .. a comparison behind a comparison -/
theorem cmp_R (d : Nat) {T : Nat → Int} {z tc q o : Nat} {K t W : List Int} {c : Int} {ρ : mj_M} {mn : Int} {o3 : Option mj_V} {Q : Int → mj_M → Prop} (hz : z ≤ 160) (h6 : tc < 6) (hq : q ≤ z) (hl : (K ++ c :: t).length + W.length ≤ q) (ho : o + cntO K ≤ 5) (h : qQ ρ T z tc q (K ++ c :: t) (o + cntO K) W) (hcm : isCm T z q) (hc : rkS c = 4) (hK : ∀ x, x ∈ K → 5 ≤ rkS x) (k : ∀ ρ' : mj_M, ρ' 33 0 31 = (lS T z q : Int) → fr (fQ tc) ρ ρ' → Q 0 ρ') :
    mwI (kd (d + 9) 93 1 [some (v_r 33 0), some (v_i 0), some (v_i mn), o3] [] ρ) Q := by
  have hTk := lK_tk T z q
  obtain ⟨⟨-, -, -, -, -, i59, i41⟩, -⟩ := rt_i hTk
  have hne : lK T z q ≠ 59 ∧ lK T z q ≠ 41 ∧ sgn (lK T z q) ≠ -1 ∧ rkS (sgn (lK T z q)) = 4 := by
    rcases hcm with e | e <;> rw [e] <;> decide
  rw [ke93_1]
  refine mwI_rV (mwV_mono (nextR (d + 7) hz hq h) (fun ρ1 g => ?_))
  obtain ⟨g1, g2⟩ := g
  have n3 : ρ1 33 0 32 = rt (lK T z q) := g1.2.1.2.2.1
  rw [if_pos rfl, n3, if_neg (fun w => hne.1 (i59.1 w)), if_neg (fun w => hne.2.1 (i41.1 w)), kc92 (d + 8) hTk n3, rI_some, if_neg hne.2.2.1]
  have hl160 : (K ++ c :: t).length + W.length ≤ 160 := Nat.le_trans hl (Nat.le_trans hq hz)
  refine mwI_rI (mwI_mono (kc91n (d + 6) tc h6 (sgn (lK T z q)) hne.2.2.2 hc hK hl160 (Nat.le_trans ho (by decide)) g1.1.2.2.2 g1.2.2) (fun x ρ2 k2 => ?_))
  obtain ⟨rfl, f2⟩ := k2
  rw [if_pos rfl]
  exact mwI_ret (k ρ2 ((fU_at f2 rfl).trans g1.2.1.2.1) (fr_tr g2 (fU_fQ f2)))
