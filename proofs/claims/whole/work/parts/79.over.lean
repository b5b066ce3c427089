/-! over, give -/
def pP (h : Int) : Nat → Nat → Int
  | 0 => fun j => if j = 0 then 1000000000 else 0
  | n + 1 => fun j => if j = 0 then mj_x ((mj_x (pP h n 0 * mj_w (100 - h))).tdiv 100) else mj_x (mj_x ((mj_x (pP h n j * mj_w (100 - h))).tdiv 100) + mj_x ((mj_x (pP h n (j - 1) * h)).tdiv 100))
theorem pP_s0 (h : Int) (n : Nat) : pP h (n + 1) 0 = mj_x ((mj_x (pP h n 0 * mj_w (100 - h))).tdiv 100) := by rw [pP]; exact if_pos rfl
theorem pP_s (h : Int) (n j : Nat) (hj : j ≠ 0) : pP h (n + 1) j = mj_x (mj_x ((mj_x (pP h n j * mj_w (100 - h))).tdiv 100) + mj_x ((mj_x (pP h n (j - 1) * h)).tdiv 100)) := by rw [pP]; exact if_neg hj
theorem x0 : mj_x 0 = 0 := by decide
theorem x00 : mj_x (mj_x ((mj_x 0).tdiv 100) + mj_x ((mj_x 0).tdiv 100)) = 0 := by decide
theorem pP_z (h : Int) : ∀ n j, n < j → pP h n j = 0
  | 0, j, hj => by rw [pP]; exact if_neg (by omega)
  | n + 1, j, hj => by
    rw [pP_s h n j (by omega), pP_z h n j (by omega), pP_z h n (j - 1) (by omega), Int.zero_mul, Int.zero_mul, x00]
def pAb (f : Nat → Int) : Nat → Nat → Int → Int
  | 0, _, x => x
  | j + 1, k, x => pAb f j (k + 1) (mj_x (x + f k))
theorem pAb_cg {f g : Nat → Int} : ∀ {j k : Nat} {x : Int}, (∀ i, k ≤ i → i < k + j → f i = g i) → pAb f j k x = pAb g j k x
  | 0, _, _, _ => rfl
  | j + 1, k, x, h => by
    unfold pAb
    rw [h k (Nat.le_refl _) (by omega), pAb_cg (fun i h1 h2 => h i (by omega) (by omega))]
def pOv (h : Int) (n s : Nat) : Int := pAb (pP h n) (40 - s) (s + 1) 0
def pRow (μ : mj_M) (s : Nat) (f : Nat → Int) : Prop := ∀ j, j ≤ 40 → μ s 0 j = f j
theorem kc68 (d : Nat) (h : Int) (μ : mj_M) : mwV (kc (d + 1) 68 [v_r 0 0] μ) (fun μ' => pRow μ' 32 (pP h 0) ∧ fr (fS [32]) μ μ') := by
  rw [ke68_0]
  have key : ∀ j k (μ1 : mj_M), k + j = 41 → fr (fS [32]) μ μ1 → (∀ i, i < k → μ1 32 0 i = 0) → mwV (kd d 68 1 [some (v_r 0 0), some (v_i (k : Int))] [] μ1) (fun μ' => pRow μ' 32 (pP h 0) ∧ fr (fS [32]) μ μ') := by
    intro j
    induction j with
    | zero =>
      intro k μ1 hk hf hz
      rw [ke68_1, if_pos (by omega)]
      refine mwV_ret ⟨fun i hi => ?_, fr_tr hf (fr_up rfl)⟩
      by_cases e : i = 0
      · rw [e, up_eq]; rfl
      · rw [up_nk e, hz i (by omega)]; exact (if_neg e).symm
    | succ j ih =>
      intro k μ1 hk hf hz
      rw [ke68_1, if_neg (by omega), if_pos (by omega), Int.toNat_natCast, wk k (m := 41) (by omega) (by omega)]
      refine ih (k + 1) _ (by omega) (fr_tr hf (fr_up rfl)) (fun i hi => ?_)
      by_cases e : i = k
      · rw [e, up_eq]
      · rw [up_nk e]; exact hz i (by omega)
  exact key 41 0 μ (by omega) fr_rf (fun i hi => absurd hi (Nat.not_lt_zero i))
theorem wp1 (k : Nat) (h : k ≤ 40) : mj_w (((k + 1 : Nat) : Int) - 1) = (k : Int) ∧ mj_w (((k + 1 : Nat) : Int) + -1) = (k : Int) := by
  refine ⟨?_, ?_⟩
  · rw [wi (by omega) (by omega)]; omega
  · rw [wi (by omega) (by omega)]; omega
theorem kd69 (d n : Nat) (h : Int) (μ : mj_M) (s : Nat) (hs : s = 32) : ∀ i (μ1 : mj_M) (o1 o4 : Option mj_V), i ≤ 40 → fr (fS [32]) μ μ1 → (∀ j, j ≤ 40 → μ1 32 0 j = if i < j then pP h (n + 1) j else pP h n j) →
    mwV (kd d 69 1 [some (v_r 0 0), o1, some (v_i h), some (v_l (mj_w (100 - h))), o4, some (v_i (i : Int))] [] μ1) (fun μ' => pRow μ' 32 (pP h (n + 1)) ∧ fr (fS [32]) μ μ') := by
  intro i
  induction i with
  | zero =>
    intro μ1 o1 o4 hi hf hc
    rw [ke69_1, if_pos (by omega)]
    refine mwV_ret ⟨fun j hj => ?_, fr_tr hf (fr_up rfl)⟩
    by_cases e : j = 0
    · rw [e, up_eq, hc 0 (by omega), if_neg (by omega), pP_s0]
    · rw [up_nk e, hc j hj, if_pos (by omega)]
  | succ i ih =>
    intro μ1 o1 o4 hi hf hc
    rw [ke69_1, if_neg (by omega), (wp1 i (by omega)).1, (wp1 i (by omega)).2, if_pos (by omega), if_pos (by omega), if_pos (by omega), Int.toNat_natCast, Int.toNat_natCast, hc (i + 1) (by omega), if_neg (by omega), hc i (by omega), if_neg (by omega)]
    have hp := pP_s h n (i + 1) (by omega)
    rw [Nat.add_sub_cancel] at hp
    rw [← hp]
    refine ih _ _ _ (by omega) (fr_tr hf (fr_up rfl)) (fun j hj => ?_)
    by_cases e : j = i + 1
    · rw [e, up_eq, if_pos (by omega)]
    · rw [up_nk e, hc j hj]
      by_cases q : i + 1 < j
      · rw [if_pos q, if_pos (by omega)]
      · rw [if_neg q, if_neg (by omega)]
theorem kc69 (d n : Nat) (hn : n < 40) (h : Int) (μ : mj_M) (hr : pRow μ 32 (pP h n)) : mwV (kc (d + 1) 69 [v_r 0 0, v_i ((n + 1 : Nat) : Int), v_i h] μ) (fun μ' => pRow μ' 32 (pP h (n + 1)) ∧ fr (fS [32]) μ μ') := by
  rw [ke69_0]
  refine kd69 d n h μ 32 rfl (n + 1) μ _ _ (by omega) fr_rf (fun j hj => ?_)
  rw [hr j hj]
  by_cases q : n + 1 < j
  · rw [if_pos q, pP_z h n j (by omega), pP_z h (n + 1) j q]
  · rw [if_neg q]
theorem kc70 (d s n : Nat) (hs : s ≤ 40) (h : Int) (μ : mj_M) (hr : pRow μ 32 (pP h n)) : kc (d + 1) 70 [v_r 0 0, v_i (s : Int)] μ = some (some (v_l (pOv h n s)), μ) := by
  rw [ke70_0]
  have key : ∀ (j k : Nat) (x : Int) (o1 o3 : Option mj_V), k + j = 41 → kd d 70 1 [some (v_r 0 0), o1, some (v_l x), o3, some (v_i (k : Int))] [] μ = some (some (v_l (pAb (pP h n) j k x)), μ) := by
    intro j
    induction j with
    | zero => intro k x o1 o3 hk; rw [ke70_1, if_pos (by omega)]; rfl
    | succ j ih =>
      intro k x o1 o3 hk
      rw [ke70_1, if_neg (by omega), if_pos (by omega), Int.toNat_natCast, wk k (m := 41) (by omega) (by omega), hr k (by omega)]
      exact ih (k + 1) _ _ _ (by omega)
  rw [wk s (m := 41) (by omega) (by omega)]
  exact key (40 - s) (s + 1) 0 _ _ (by omega)
theorem kd141 (d n s : Nat) (hn : n ≤ 40) (hs : s ≤ 40) (h : Int) (ρ : mj_M) : mwL (kc (d + 1) 141 [v_r 33 0, v_i (n : Int), v_i h, v_i (s : Int)] ρ) (fun x ρ' => x = pOv h n s ∧ fr (fS [61]) ρ ρ') := by
  have l9 : ∀ (j k : Nat) (x : Int) (o1 o2 o3 o5 : Option mj_V) (ρ1 : mj_M), k + j = 41 → pRow ρ1 61 (pP h n) → kd d 141 9 [some (v_r 33 0), o1, o2, o3, some (v_l x), o5, some (v_i (k : Int))] [] ρ1 = some (some (v_l (pAb (pP h n) j k x)), ρ1) := by
    intro j
    induction j with
    | zero => intro k x o1 o2 o3 o5 ρ1 hk hr; rw [ke141_9, if_pos (by omega)]; rfl
    | succ j ih =>
      intro k x o1 o2 o3 o5 ρ1 hk hr
      rw [ke141_9, if_neg (by omega), if_pos (by omega), Int.toNat_natCast, wk k (m := 41) (by omega) (by omega), hr k (by omega)]
      exact ih (k + 1) _ _ _ _ _ ρ1 (by omega) hr
  have l5 : ∀ j k (o5 o6 : Option mj_V) (ρ1 : mj_M), k + j = n → fr (fS [61]) ρ ρ1 → pRow ρ1 61 (pP h k) → mwL (kd d 141 5 [some (v_r 33 0), some (v_i (n : Int)), some (v_i h), some (v_i (s : Int)), some (v_i (k : Int)), o5, o6] [] ρ1) (fun x ρ' => x = pOv h n s ∧ fr (fS [61]) ρ ρ') := by
    intro j
    induction j with
    | zero =>
      intro k o5 o6 ρ1 hk hf hr
      have e : k = n := by omega
      rw [ke141_5, if_neg (by omega), wk s (m := 41) (by omega) (by omega), l9 (40 - s) (s + 1) 0 _ _ _ _ ρ1 (by omega) (e ▸ hr)]
      exact mwL_ret ⟨rfl, hf⟩
    | succ j ih =>
      intro k o5 o6 ρ1 hk hf hr
      have l6 : ∀ i (ρ1 : mj_M) (o6 : Option mj_V), i ≤ 40 → fr (fS [61]) ρ ρ1 → (∀ j, j ≤ 40 → ρ1 61 0 j = if i < j then pP h (k + 1) j else pP h k j) →
          mwL (kd d 141 6 [some (v_r 33 0), some (v_i (n : Int)), some (v_i h), some (v_i (s : Int)), some (v_i (k : Int)), some (v_i (i : Int)), o6] [] ρ1) (fun x ρ' => x = pOv h n s ∧ fr (fS [61]) ρ ρ') := by
        intro i
        induction i with
        | zero =>
          intro ρ1 o6 hi hf hc
          rw [ke141_6, if_neg (by omega), wk k (m := 41) (by omega) (by omega)]
          refine ih (k + 1) _ _ _ (by omega) (fr_tr hf (fr_up rfl)) (fun j hj => ?_)
          by_cases e : j = 0
          · rw [e, up_eq, hc 0 (by omega), if_neg (by omega), pP_s0]
          · rw [up_nk e, hc j hj, if_pos (by omega)]
        | succ i ihi =>
          intro ρ1 o6 hi hf hc
          rw [ke141_6, if_pos (by omega), (wp1 i (by omega)).1, (wp1 i (by omega)).2, if_pos (by omega), if_pos (by omega), if_pos (by omega), Int.toNat_natCast, Int.toNat_natCast, hc (i + 1) (by omega), if_neg (by omega), hc i (by omega), if_neg (by omega)]
          have hp := pP_s h k (i + 1) (by omega)
          rw [Nat.add_sub_cancel] at hp
          rw [← hp]
          refine ihi _ _ (by omega) (fr_tr hf (fr_up rfl)) (fun j hj => ?_)
          by_cases e : j = i + 1
          · rw [e, up_eq, if_pos (by omega)]
          · rw [up_nk e, hc j hj]
            by_cases q : i + 1 < j
            · rw [if_pos q, if_pos (by omega)]
            · rw [if_neg q, if_neg (by omega)]
      rw [ke141_5, if_pos (by omega)]
      exact l6 40 ρ1 _ (Nat.le_refl _) hf (fun j hj => by rw [if_neg (by omega)]; exact hr j hj)
  have l1 : ∀ j k (o5 o6 : Option mj_V) (ρ1 : mj_M), k + j = 41 → fr (fS [61]) ρ ρ1 → (∀ i, i < k → ρ1 61 0 i = pP h 0 i) → mwL (kd d 141 1 [some (v_r 33 0), some (v_i (n : Int)), some (v_i h), some (v_i (s : Int)), some (v_i (k : Int)), o5, o6] [] ρ1) (fun x ρ' => x = pOv h n s ∧ fr (fS [61]) ρ ρ') := by
    intro j
    induction j with
    | zero =>
      intro k o5 o6 ρ1 hk hf hz
      rw [ke141_1, if_pos (by omega)]
      exact l5 n 0 _ _ ρ1 (by omega) hf (fun i hi => hz i (by omega))
    | succ j ih =>
      intro k o5 o6 ρ1 hk hf hz
      rw [ke141_1, if_neg (by omega), wk k (m := 41) (by omega) (by omega)]
      by_cases q : (k : Int) = 0
      · have e : k = 0 := by omega
        rw [if_pos q, if_pos (by omega), Int.toNat_natCast]
        refine ih (k + 1) _ _ _ (by omega) (fr_tr hf (fr_up rfl)) (fun i hi => ?_)
        have : i = k := by omega
        rw [this, up_eq, e]; rfl
      · rw [if_neg q, if_pos (by omega), Int.toNat_natCast]
        refine ih (k + 1) _ _ _ (by omega) (fr_tr hf (fr_up rfl)) (fun i hi => ?_)
        by_cases e : i = k
        · rw [e, up_eq]; exact (if_neg (by omega)).symm
        · rw [up_nk e]; exact hz i (by omega)
  rw [ke141_0]
  exact l1 41 0 _ _ ρ (by omega) fr_rf (fun i hi => absurd hi (Nat.not_lt_zero i))
theorem mw2L_same {μ ρ : mj_M} (x : Int) (h : Inv μ ρ) : mw2L (some (some (v_l x), μ)) (some (some (v_l x), ρ)) := ⟨x, μ, ρ, rfl, rfl, h⟩
theorem mw2L_of {r r' : mj_R} {μ ρ : mj_M} {x : Int} (h : Inv μ ρ) (h1 : mwL r (fun y μ' => y = x ∧ fr sC μ μ')) (h2 : mwL r' (fun y ρ' => y = x ∧ fr sR ρ ρ')) : mw2L r r' := by
  obtain ⟨y, μ', e, rfl, f⟩ := h1
  obtain ⟨y', ρ', e', rfl, f'⟩ := h2
  exact ⟨_, μ', ρ', e, e', Inv_fr h f f'⟩
theorem kd29 (d n s : Nat) (hn : n ≤ 40) (hs : s ≤ 40) (h : Int) (μ : mj_M) : ∀ j k (μ1 : mj_M), k + j = n → fr (fS [32]) μ μ1 → pRow μ1 32 (pP h k) → mwL (kd (d + 1) 29 3 [some (v_r 0 0), some (v_i (n : Int)), some (v_i h), some (v_i (s : Int)), some (v_i ((k + 1 : Nat) : Int))] [] μ1) (fun x μ' => x = pOv h n s ∧ fr (fS [32]) μ μ') := by
  intro j
  induction j with
  | zero =>
    intro k μ1 hk hf hr
    have e : k = n := by omega
    rw [ke29_3, if_pos (by omega), kc70 d s k hs h μ1 hr, rL_some, e]
    exact mwL_ret ⟨rfl, hf⟩
  | succ j ih =>
    intro k μ1 hk hf hr
    rw [ke29_3, if_neg (by omega)]
    refine mwL_rV (mwV_mono (kc69 d k (by omega) h μ1 hr) (fun μ2 g => ?_))
    rw [wk (k + 1) (m := 42) (by omega) (by omega)]
    exact ih (k + 1) μ2 (by omega) (fr_tr hf g.2) g.1
theorem op_over (d : Nat) (n h0 s : Int) {μ ρ : mj_M} (h : Inv μ ρ) : mw2L (kc (d + 20) 29 [v_r 0 0, v_i n, v_i h0, v_i s] μ) (kc (d + 20) 142 [v_r 33 0, v_i n, v_i h0, v_i s] ρ) := by
  rw [ke29_0, ke142_0, kc44, kc72, rI_some, rI_some]
  by_cases q1 : 0 ≤ n ∧ n ≤ 40
  · rw [b01_t q1, if_neg n10, if_neg n10, kc44, kc72, rI_some, rI_some]
    by_cases q2 : 0 ≤ h0 ∧ h0 ≤ 100
    · rw [b01_t q2, if_neg n10, if_neg n10, kc44, kc72, rI_some, rI_some]
      by_cases q3 : 0 ≤ s ∧ s ≤ 40
      · obtain ⟨n, rfl⟩ : ∃ k : Nat, n = k := ⟨n.toNat, by omega⟩
        obtain ⟨s, rfl⟩ : ∃ k : Nat, s = k := ⟨s.toNat, by omega⟩
        rw [b01_t q3, if_neg n10, if_neg n10]
        refine mw2L_of (x := pOv h0 n s) h ?_ ?_
        · refine mwL_rV (mwV_mono (kc68 (d + 18) h0 μ) (fun μ1 g => ?_))
          exact mwL_mono (kd29 (d + 18) n s (by omega) (by omega) h0 μ n 0 μ1 (by omega) g.2 g.1) (fun x μ' k => ⟨k.1, sC_S k.2 (by decide)⟩)
        · refine mwL_rL (mwL_mono (kd141 (d + 18) n s (by omega) (by omega) h0 ρ) (fun x ρ1 g => ?_))
          exact mwL_ret ⟨g.1, sR_S g.2 (by decide)⟩
      · rw [b01_f q3, if_pos rfl, if_pos rfl]; exact mw2L_same _ h
    · rw [b01_f q2, if_pos rfl, if_pos rfl]; exact mw2L_same _ h
  · rw [b01_f q1, if_pos rfl, if_pos rfl]; exact mw2L_same _ h
def pGr (P : Nat → Prop) [∀ k, Decidable (P k)] : Nat → Int
  | 0 => 0
  | n + 1 => if P (n + 1) then ((n + 1 : Nat) : Int) else pGr P n
abbrev pQ (h : Int) (s : Nat) (X : Int) (n : Nat) : Prop := ¬ X < pOv h n s
theorem kd30 (d s : Nat) (hs : s ≤ 40) (h r : Int) (μ : mj_M) : ∀ j k (μ1 : mj_M), k + j = 40 → fr (fS [32]) μ μ1 → pRow μ1 32 (pP h k) → mwI (kd (d + 1) 30 3 [some (v_r 0 0), some (v_i h), some (v_i (s : Int)), some (v_i r), some (v_i (pGr (pQ h s (mj_x (r * 1000000))) k)), some (v_i ((k + 1 : Nat) : Int))] [] μ1) (fun x μ' => x = pGr (pQ h s (mj_x (r * 1000000))) 40 ∧ fr (fS [32]) μ μ') := by
  intro j
  induction j with
  | zero =>
    intro k μ1 hk hf hr
    have e : k = 40 := by omega
    rw [ke30_3, if_pos (by omega), e]
    exact mwI_ret ⟨rfl, hf⟩
  | succ j ih =>
    intro k μ1 hk hf hr
    have hp : pGr (pQ h s (mj_x (r * 1000000))) (k + 1) = if pQ h s (mj_x (r * 1000000)) (k + 1) then ((k + 1 : Nat) : Int) else pGr (pQ h s (mj_x (r * 1000000))) k := rfl
    rw [ke30_3, if_neg (by omega)]
    refine mwI_rV (mwV_mono (kc69 d k (by omega) h μ1 hr) (fun μ2 g => ?_))
    rw [kc70 d s (k + 1) hs h μ2 g.1, rL_some, wk (k + 1) (m := 42) (by omega) (by omega)]
    have nx := ih (k + 1) μ2 (by omega) (fr_tr hf g.2) g.1
    generalize mj_x (r * 1000000) = X at hp nx ⊢
    by_cases q : pOv h (k + 1) s < X
    · rw [if_pos (fun w => Int.lt_irrefl _ (Int.lt_trans q w))] at hp
      rw [hp] at nx
      rw [if_pos q]; exact nx
    · rw [if_neg q]
      by_cases q2 : pOv h (k + 1) s = X
      · rw [if_pos (fun w => Int.lt_irrefl X (by rw [q2] at w; exact w))] at hp
        rw [hp] at nx
        rw [if_pos q2]; exact nx
      · rw [if_neg (fun w => by omega)] at hp
        rw [hp] at nx
        rw [if_neg q2]; exact nx
theorem kd143 (d s : Nat) (hs : s ≤ 40) (h r : Int) (ρ : mj_M) : ∀ (k : Nat) (ρ1 : mj_M), k ≤ 40 → fr (fS [61]) ρ ρ1 → mwI (kd (d + 1) 143 3 [some (v_r 33 0), some (v_i h), some (v_i (s : Int)), some (v_i r), some (v_i (k : Int))] [] ρ1) (fun x ρ' => x = pGr (pQ h s (mj_x (r * 1000000))) k ∧ fr (fS [61]) ρ ρ') := by
  intro k
  induction k with
  | zero =>
    intro ρ1 hk hf
    rw [ke143_3, if_neg (by omega)]
    exact mwI_ret ⟨rfl, hf⟩
  | succ k ih =>
    intro ρ1 hk hf
    have hp : pGr (pQ h s (mj_x (r * 1000000))) (k + 1) = if pQ h s (mj_x (r * 1000000)) (k + 1) then ((k + 1 : Nat) : Int) else pGr (pQ h s (mj_x (r * 1000000))) k := rfl
    rw [ke143_3, if_pos (by omega), (wp1 k (by omega)).2, Int.mul_comm 1000000 r]
    refine mwI_rL (mwL_mono (kd141 d (k + 1) s hk hs h ρ1) (fun x ρ2 g => ?_))
    obtain ⟨rfl, g⟩ := g
    have nx := ih ρ2 (by omega) (fr_tr hf g)
    generalize mj_x (r * 1000000) = X at hp nx ⊢
    by_cases q : pOv h (k + 1) s < X
    · rw [if_pos q]
      exact mwI_ret ⟨by rw [hp, if_pos (fun w => Int.lt_irrefl _ (Int.lt_trans q w))], fr_tr hf g⟩
    · rw [if_neg q]
      by_cases q2 : pOv h (k + 1) s = X
      · rw [if_pos q2]
        exact mwI_ret ⟨by rw [hp, if_pos (fun w => Int.lt_irrefl X (by rw [q2] at w; exact w))], fr_tr hf g⟩
      · rw [if_neg (fun w => by omega)] at hp
        rw [if_neg q2, hp]; exact nx
theorem op_give (d : Nat) (h0 s r : Int) {μ ρ : mj_M} (h : Inv μ ρ) : mw2 (kc (d + 20) 30 [v_r 0 0, v_i h0, v_i s, v_i r] μ) (kc (d + 20) 143 [v_r 33 0, v_i h0, v_i s, v_i r] ρ) := by
  rw [ke30_0, ke143_0, kc44, kc72, rI_some, rI_some]
  by_cases q1 : 0 ≤ h0 ∧ h0 ≤ 100
  · rw [b01_t q1, if_neg n10, if_neg n10, kc44, kc72, rI_some, rI_some]
    by_cases q2 : 0 ≤ s ∧ s ≤ 40
    · rw [b01_t q2, if_neg n10, if_neg n10, kc44, kc72, rI_some, rI_some]
      by_cases q3 : 0 ≤ r ∧ r ≤ 1000
      · obtain ⟨s, rfl⟩ : ∃ k : Nat, s = k := ⟨s.toNat, by omega⟩
        rw [b01_t q3, if_neg n10, if_neg n10]
        refine mw2_of (x := pGr (pQ h0 s (mj_x (r * 1000000))) 40) h ?_ ?_
        · refine mwI_rV (mwV_mono (kc68 (d + 18) h0 μ) (fun μ1 g => ?_))
          exact mwI_mono (kd30 (d + 18) s (by omega) h0 r μ 40 0 μ1 (by omega) g.2 g.1) (fun x μ' k => ⟨k.1, sC_S k.2 (by decide)⟩)
        · exact mwI_mono (kd143 (d + 18) s (by omega) h0 r ρ 40 ρ (Nat.le_refl _) fr_rf) (fun x ρ' k => ⟨k.1, sR_S k.2 (by decide)⟩)
      · rw [b01_f q3, if_pos rfl, if_pos rfl]; exact mw2_same _ h
    · rw [b01_f q2, if_pos rfl, if_pos rfl]; exact mw2_same _ h
  · rw [b01_f q1, if_pos rfl, if_pos rfl]; exact mw2_same _ h
