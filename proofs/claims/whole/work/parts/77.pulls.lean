/-! pulls, taken -/
theorem mw2_bind {r r' : mj_R} {f f' : Int → mj_M → mj_R} (h : mw2 r r') (k : ∀ x μ ρ, Inv μ ρ → mw2 (f x μ) (f' x ρ)) : mw2 (mj_rI r f) (mj_rI r' f') := by
  obtain ⟨x, μ, ρ, rfl, rfl, hI⟩ := h
  exact k x μ ρ hI
theorem wpl (p k : Nat) (hp : p ≤ 1000) (hk : k ≤ 1000) : mj_w ((p : Int) + mj_w (3 * (k : Int))) = ((p + 3 * k : Nat) : Int) ∧ mj_w (((p + 3 * k : Nat) : Int) + 3) = ((p + 3 * (k + 1) : Nat) : Int) := by
  refine ⟨?_, ?_⟩
  · rw [wi (z := 3 * (k : Int)) (by omega) (by omega), wi (by omega) (by omega)]; omega
  · rw [wi (by omega) (by omega)]; omega
theorem w40a (s i : Nat) (hs : s < 4) (hi : i + 2 < 40) : mj_w (mj_w (40 * (s : Int)) + (i : Int)) = ((40 * s + i : Nat) : Int) ∧ mj_w (((40 * s + i : Nat) : Int) + 1) = ((40 * s + (i + 1) : Nat) : Int) ∧ mj_w (((40 * s + i : Nat) : Int) + 2) = ((40 * s + (i + 2) : Nat) : Int) ∧ mj_w ((i : Int) + 1) = ((i + 1 : Nat) : Int) ∧ mj_w ((i : Int) + 2) = ((i + 2 : Nat) : Int) ∧ (0 ≤ ((40 * s + i : Nat) : Int) ∧ ((40 * s + i : Nat) : Int) < 160) ∧ (0 ≤ ((40 * s + (i + 1) : Nat) : Int) ∧ ((40 * s + (i + 1) : Nat) : Int) < 160) ∧ (0 ≤ ((40 * s + (i + 2) : Nat) : Int) ∧ ((40 * s + (i + 2) : Nat) : Int) < 160) ∧ (0 ≤ (i : Int) ∧ (i : Int) < 40) ∧ (0 ≤ ((i + 1 : Nat) : Int) ∧ ((i + 1 : Nat) : Int) < 40) ∧ (0 ≤ ((i + 2 : Nat) : Int) ∧ ((i + 2 : Nat) : Int) < 40) := by
  refine ⟨?_, ?_, ?_, ?_, ?_, ?_, ?_, ?_, ?_, ?_, ?_⟩
  · rw [wi (z := 40 * (s : Int)) (by omega) (by omega), wi (by omega) (by omega)]; omega
  · rw [wi (by omega) (by omega)]; omega
  · rw [wi (by omega) (by omega)]; omega
  · rw [wi (by omega) (by omega)]; omega
  · rw [wi (by omega) (by omega)]; omega
  all_goals omega
theorem wsz (z : Int) (h : 0 ≤ z ∧ z ≤ 40) : mj_w (z - 3) = z - 3 := wi (by omega) (by omega)
theorem pl_f (p k : Nat) (z : Int) (h : rg z 0 40) (q : ((p + 3 * k : Nat) : Int) ≤ z - 3) : p + 3 * k + 2 < 40 := by
  unfold rg at h; omega
theorem wz0 (c : Nat) (h : c ≤ 100) : mj_w ((c : Int) + 0) = (c : Int) := by
  rw [Int.add_zero, wi (by omega) (by omega)]
theorem kd42 (d s n p : Nat) (hs : s < 4) (hn : n ≤ 13) (hp : p ≤ 40) : ∀ j k came (μ ρ : mj_M) (o1 o2 o3 o4 o5 o6 : Option mj_V), k + j = n → came ≤ k → Inv μ ρ →
    mw2 (kd (d + 21) 42 5 [some (v_r 0 0), o1, o2, o3, some (v_i (n : Int)), some (v_r 19 s), some (v_i (came : Int)), some (v_i ((p + 3 * k : Nat) : Int)), some (v_i (k : Int))] [] μ) (kd (d + 21) 160 5 [some (v_r 33 0), some (v_i (s : Int)), o4, some (v_i (p : Int)), some (v_i (n : Int)), some (v_i (came : Int)), some (v_i (k : Int)), o5, o6] [] ρ) := by
  intro j
  induction j with
  | zero =>
    intro k came μ ρ o1 o2 o3 o4 o5 o6 hk hc h
    rw [ke42_5, ke160_5, if_neg (by omega), if_neg (by omega)]
    exact mw2_same _ h
  | succ j ih =>
    intro k came μ ρ o1 o2 o3 o4 o5 o6 hk hc h
    have hkn : (k : Int) < (n : Int) := by omega
    have hb : 0 ≤ (s : Int) ∧ (s : Int) < 4 := by omega
    have hp0 : ¬ (p : Int) < 0 := by omega
    have hp1 : ¬ ((p + 3 * k : Nat) : Int) < (p : Int) := by omega
    have ek : k + 1 + j = n := by omega
    have hck : came ≤ k + 1 := by omega
    have hck' : came + 1 ≤ k + 1 := by omega
    have hk13 : k < 13 := by omega
    have hc14 : came < 14 := by omega
    have hc100 : came ≤ 100 := by omega
    have hp1000 : p ≤ 1000 := by omega
    have hk1000 : k ≤ 1000 := by omega
    obtain ⟨w1, w2⟩ := wpl p k hp1000 hk1000
    obtain ⟨-, ⟨h2, h2'⟩, h3⟩ := Inv_sh h s hs
    rw [ke42_5, ke160_5, if_pos hkn, if_pos hkn, kc44, rI_some, if_neg hp0, w1, if_neg hp1, if_pos hb, Int.toNat_natCast s, h2, wsz _ h2']
    by_cases q : 0 ≤ ((p + 3 * k : Nat) : Int) ∧ ((p + 3 * k : Nat) : Int) ≤ μ 19 s 1 - 3
    · have hi : p + 3 * k + 2 < 40 := pl_f p k _ h2' q.2
      obtain ⟨v1, v2, v3, v4, v5, v6, v7, v8, v9, v10, v11⟩ := w40a s (p + 3 * k) hs hi
      obtain ⟨c0, -⟩ := h3 (p + 3 * k) (Nat.lt_of_succ_lt (Nat.lt_of_succ_lt hi))
      obtain ⟨c1, hn1⟩ := h3 (p + 3 * k + 1) (Nat.lt_of_succ_lt hi)
      obtain ⟨c2, -⟩ := h3 (p + 3 * k + 2) hi
      have hq : ¬ μ 19 s 1 - 3 < ((p + 3 * k : Nat) : Int) := Int.not_lt.mpr q.2
      rw [b01_t q, if_neg n10, if_neg hq, v1, v2, v3, v4, v5, if_pos v9, if_pos v10, if_pos v11, if_pos v6, if_pos v7, if_pos v8, Int.toNat_natCast, Int.toNat_natCast, Int.toNat_natCast, Int.toNat_natCast, Int.toNat_natCast, Int.toNat_natCast, c0, c1, c2]
      refine mw2_bind (op_pull (d + 1) _ _ _ hn1 h) (fun x μ1 ρ1 h1 => ?_)
      rw [w2, wk k hk13 (by decide)]
      by_cases x0 : x < 0
      · rw [if_pos x0, if_pos x0, wz0 came hc100]
        exact ih (k + 1) came μ1 ρ1 _ _ _ _ _ _ ek hck h1
      · rw [if_neg x0, if_neg x0, wk came hc14 (by decide)]
        exact ih (k + 1) (came + 1) μ1 ρ1 _ _ _ _ _ _ ek hck' h1
    · have hq : μ 19 s 1 - 3 < ((p + 3 * k : Nat) : Int) := Int.not_le.mp (fun w => q ⟨Int.natCast_nonneg _, w⟩)
      rw [b01_f q, if_pos rfl, if_pos hq]; exact mw2_same _ h
theorem op_pulls (d : Nat) (s so p n : Int) (hp : mj_n32 p) {μ ρ : mj_M} (h : Inv μ ρ) : mw2 (kc (d + 22) 42 [v_r 0 0, v_i s, v_i so, v_i p, v_i n] μ) (kc (d + 22) 160 [v_r 33 0, v_i s, v_i so, v_i p, v_i n] ρ) := by
  rw [ke42_0, ke160_0, kc48, kc72, rI_some, rI_some]
  by_cases q : 0 ≤ s ∧ s ≤ 3
  · obtain ⟨k, rfl⟩ : ∃ k : Nat, s = k := ⟨s.toNat, by omega⟩
    have hb : 0 ≤ (k : Int) ∧ (k : Int) < 4 := by omega
    have hk : k < 4 := by omega
    rw [b01_t q, if_neg n10, if_neg n10, kc44, kc72, rI_some, rI_some]
    by_cases q2 : 0 ≤ so ∧ so ≤ 2
    · rw [b01_t q2, if_neg n10, if_neg n10, kc44, kc72, rI_some, rI_some]
      by_cases q3 : 0 ≤ n ∧ n ≤ 13
      · obtain ⟨m, rfl⟩ : ∃ m : Nat, n = m := ⟨n.toNat, by omega⟩
        obtain ⟨⟨h1, h1'⟩, ⟨h2, h2'⟩, h3⟩ := Inv_sh h k hk
        unfold rg at h2'
        rw [b01_t q3, if_neg n10, if_neg n10, if_pos hb, if_pos hb, if_pos hb, Int.toNat_natCast, h1, kc194, rI_some]
        by_cases q4 : μ 19 k 0 = -1
        · rw [b01_t q4, if_neg n10, if_pos q4]; exact mw2_same _ h
        · rw [b01_f q4, if_pos rfl, if_neg q4]
          by_cases q5 : μ 19 k 0 = so
          · rw [if_pos q5, if_pos q5]
            by_cases q6 : 0 ≤ p ∧ p ≤ 40
            · obtain ⟨i, rfl⟩ : ∃ i : Nat, p = i := ⟨p.toNat, by omega⟩
              exact kd42 d k m i hk (by omega) (by omega) m 0 0 μ ρ _ _ _ _ _ _ (by omega) (Nat.le_refl _) h
            · rw [ke42_5, ke160_5]
              by_cases q7 : (0 : Int) < (m : Int)
              · have hw : mj_w (p + mj_w (3 * 0)) = p := by rw [show mj_w (3 * 0) = 0 from by decide, Int.add_zero, mj_w_id hp]
                rw [if_pos q7, if_pos q7, kc44, rI_some, wsz _ h2', b01_f (by omega), if_pos rfl]
                by_cases q8 : p < 0
                · rw [if_pos q8]; exact mw2_same _ h
                · rw [if_neg q8, hw, if_neg (Int.lt_irrefl p), if_pos hb, Int.toNat_natCast, h2, wsz _ h2', if_pos (by omega)]; exact mw2_same _ h
              · rw [if_neg q7, if_neg q7]; exact mw2_same _ h
          · rw [if_neg q5, if_neg q5]; exact mw2_same _ h
      · rw [b01_f q3, if_pos rfl, if_pos rfl]; exact mw2_same _ h
    · rw [b01_f q2, if_pos rfl, if_pos rfl]; exact mw2_same _ h
  · rw [b01_f q, if_pos rfl, if_pos rfl]; exact mw2_same _ h
/-! taken -/
def tAb (k : Int) : Int := if k = 0 then -1 else if k = 1 then 0 else if k = 2 then 0 else if k = 3 then 2 else if k = 4 then 0 else 1
theorem tb_ab (κ : Int → mj_R) : ∀ k : Nat, k < 6 → mj_tb4 mk_TB 1 (k : Int) κ = κ (tAb k)
  | 0, _ => rfl
  | 1, _ => rfl
  | 2, _ => rfl
  | 3, _ => rfl
  | 4, _ => rfl
  | 5, _ => rfl
  | k + 6, h => absurd h (by omega)
def pIs (w : Int) : Nat → Int → Int
  | 0, _ => 0
  | j + 1, k => if k < 0 then 0 else if k = w then 1 else pIs w j (tAb k)
theorem tAb_b (k : Int) : -1 ≤ tAb k ∧ tAb k < 6 := by
  unfold tAb
  split
  · omega
  split
  · omega
  split
  · omega
  split
  · omega
  split <;> omega
theorem kd164 (d : Nat) (w : Int) (μ : mj_M) : ∀ (j i : Nat) (k : Int) (o : Option mj_V), i + j = 6 → -1 ≤ k ∧ k < 6 → kd d 164 1 [o, some (v_i w), some (v_i k), some (v_i (i : Int))] [] μ = some (some (v_i (pIs w j k)), μ) := by
  intro j
  induction j with
  | zero => intro i k o hi hk; rw [ke164_1, if_neg (by omega)]; rfl
  | succ j ih =>
    intro i k o hi hk
    rw [ke164_1, if_pos (by omega)]
    unfold pIs
    by_cases q : k < 0
    · rw [if_pos q, if_pos q]
    · rw [if_neg q, if_neg q, if_pos hk.2]
      by_cases q2 : k = w
      · rw [if_pos q2, if_pos q2]
      · obtain ⟨k', rfl⟩ : ∃ k' : Nat, k = k' := ⟨k.toNat, by omega⟩
        rw [if_neg q2, if_neg q2, tb_ab _ k' (by omega), wk i (m := 6) (by omega) (by omega)]
        exact ih (i + 1) _ _ (by omega) (tAb_b _)
def pUd (k w : Int) : Int := if w = 0 then 1 else if k = w then 1 else if w = 2 ∧ k = 3 then 1 else if w = 1 ∧ k = 5 then 1 else 0
theorem pIs_ud : ∀ k, k < 6 → ∀ w, w < 6 → pIs ((w : Nat) : Int) 6 ((k : Nat) : Int) = pUd ((k : Nat) : Int) ((w : Nat) : Int) := by decide
theorem kc161 (d : Nat) (k w : Int) (ρ : mj_M) : kc (d + 1) 161 [v_i k, v_i w] ρ = some (some (v_i (pUd k w)), ρ) := by
  rw [ke161_0]
  unfold pUd
  by_cases q1 : w = 0
  · rw [if_pos q1, if_pos q1]
  rw [if_neg q1, if_neg q1]
  by_cases q2 : k = w
  · rw [if_pos q2, if_pos q2]
  rw [if_neg q2, if_neg q2]
  by_cases q3 : w = 2
  · rw [if_pos q3]
    by_cases q4 : k = 3
    · rw [if_pos q4, if_pos ⟨q3, q4⟩]
    · rw [if_neg q4, if_neg (fun z => q4 z.2), ke161_1, if_neg (by omega), if_neg (by omega)]
  · rw [if_neg q3, if_neg (fun z => q3 z.1), ke161_1]
    by_cases q5 : w = 1
    · rw [if_pos q5]
      by_cases q6 : k = 5
      · rw [if_pos q6, if_pos ⟨q5, q6⟩]
      · rw [if_neg q6, if_neg (fun z => q6 z.2)]
    · rw [if_neg q5, if_neg (fun z => q5 z.1)]
theorem Inv_kind {μ ρ : mj_M} (h : Inv μ ρ) {m a : Nat} (hm : μ 1 0 4 = (m : Int)) (ha : a < m) : ρ 35 0 a = μ 7 a 0 ∧ rg (μ 7 a 0) 0 5 := by
  obtain ⟨n, m', t, tc, z, ⟨⟨a1, a2, a3, a4, a5, a6⟩, hb, hc4, hcs, has⟩, -⟩ := h
  have cm : μ 1 0 4 = (m' : Int) := a5
  have e : m' = m := Int.ofNat.inj (cm.symm.trans hm)
  exact (has a (e.symm ▸ ha)).1
theorem rg6 {x : Int} (h : rg x 0 5) : -1 ≤ x ∧ x < 6 := by
  unfold rg at h; omega
theorem rg6n {x : Int} (h : rg x 0 5) : ∃ k : Nat, x = k ∧ k < 6 := by
  unfold rg at h; exact ⟨x.toNat, by omega, by omega⟩
theorem op_taken (d : Nat) (i w : Int) {μ ρ : mj_M} (h : Inv μ ρ) : mw2 (kc (d + 20) 43 [v_r 0 0, v_i i, v_i w] μ) (kc (d + 20) 162 [v_r 33 0, v_i i, v_i w] ρ) := by
  obtain ⟨I, t, hD, -⟩ := Inv_day h
  obtain ⟨n4, m16, t6, cn, rn, cm, rm⟩ := dAll_n hD
  rw [ke43_0, ke162_0, kc44, kc72, rI_some, rI_some]
  by_cases q1 : 0 ≤ w ∧ w ≤ 6
  · rw [b01_t q1, if_neg n10, if_neg n10, kc44, kc72, rI_some, rI_some]
    by_cases q2 : 0 ≤ i ∧ i ≤ 19
    · rw [b01_t q2, if_neg n10, if_neg n10, rn, rm]
      have main : ∀ x, x = b01 (w = 6) → mw2 (kd (d + 19) 43 4 [some (v_r 0 0), some (v_i i), some (v_i w), none, none] [v_i x] μ) (if i < 4 then (if i < (I.n : Int) then (if w = 6 then (if 0 ≤ mj_w (3 * i) ∧ mj_w (3 * i) < 12 then some (some (v_i (ρ 34 0 (mj_w (3 * i)).toNat)), ρ) else none) else some (some (v_i (-13)), ρ)) else some (some (v_i (-11)), ρ)) else if mj_w (i - 4) < (I.m : Int) then (if w < 6 then (if 0 ≤ mj_w (i - 4) ∧ mj_w (i - 4) < 17 then mj_rI (kc (d + 19) 161 [v_i (ρ 35 0 (mj_w (i - 4)).toNat), v_i w] ρ) fun x5 m6 => if x5 = 0 then some (some (v_i (-13)), m6) else some (some (v_i (mj_w (i - 4))), m6) else none) else some (some (v_i (-13)), ρ)) else some (some (v_i (-11)), ρ)) := by
        intro x hx
        rw [ke43_4]
        by_cases q3 : i < 4
        · obtain ⟨k, rfl⟩ : ∃ k : Nat, i = k := ⟨i.toNat, by omega⟩
          rw [if_pos q3, if_pos q3, kc49 (d + 17) k μ I.n cn (by omega), rI_some]
          by_cases q4 : (k : Int) < (I.n : Int)
          · have hk : k < I.n := by omega
            obtain ⟨⟨e1, -, -, -, -⟩, hb4, hb, -, -⟩ := w3 k (by omega)
            rw [b01_t ⟨q2.1, q4⟩, if_neg n10, if_pos q4, hx]
            by_cases q5 : w = 6
            · rw [b01_t q5, if_neg n10, if_pos q5, if_pos hb4, e1, if_pos hb, Int.toNat_natCast, Int.toNat_natCast, hD.1.does k hk]
              exact mw2_eq (hD.2.1.does k hk) h
            · rw [b01_f q5, if_pos rfl, if_neg q5]; exact mw2_same _ h
          · rw [b01_f (fun z => q4 z.2), if_pos rfl, if_neg q4]; exact mw2_same _ h
        · obtain ⟨k, hk⟩ : ∃ k : Nat, i - 4 = k := ⟨(i - 4).toNat, by omega⟩
          have e4 : mj_w (i - 4) = (k : Int) := by rw [hk, wi (by omega) (by omega)]
          rw [if_neg q3, if_neg q3, e4, kc50 (d + 17) k μ I.m cm (by omega), rI_some]
          by_cases q4 : (k : Int) < (I.m : Int)
          · have hkm : k < I.m := by omega
            have hb16 : 0 ≤ (k : Int) ∧ (k : Int) < 16 := by omega
            have hb17 : 0 ≤ (k : Int) ∧ (k : Int) < 17 := by omega
            obtain ⟨hk1, hk2⟩ := Inv_kind h cm hkm
            have hk6 : -1 ≤ μ 7 k 0 ∧ μ 7 k 0 < 6 := rg6 hk2
            have e164 : kd (d + 18) 164 1 [some (v_r 7 k), some (v_i w), some (v_i (μ 7 k 0)), some (v_i 0)] [] μ = some (some (v_i (pIs w 6 (μ 7 k 0))), μ) := kd164 (d + 18) w μ 6 0 (μ 7 k 0) (some (v_r 7 k)) rfl hk6
            rw [b01_t ⟨hb16.1, q4⟩, if_neg n10, if_pos q4, hx]
            by_cases q5 : w = 6
            · rw [b01_t q5, if_neg n10, if_neg (show ¬ w < 6 by omega)]; exact mw2_same _ h
            · have hw6 : w < 6 := by omega
              rw [b01_f q5, if_pos rfl, if_pos hw6, if_pos hb16, if_pos hb17, Int.toNat_natCast, ke164_0, e164, rI_some, kc161, rI_some, hk1]
              obtain ⟨kk, ek, hkk⟩ := rg6n hk2
              obtain ⟨ww, ew, hww⟩ := rg6n (x := w) ⟨q1.1, Int.le_of_lt_add_one hw6⟩
              rw [ek, ew, pIs_ud kk hkk ww hww]
              by_cases z : pUd (kk : Int) (ww : Int) = 0
              · rw [if_pos z, if_pos z]; exact mw2_same _ h
              · rw [if_neg z, if_neg z]; exact mw2_same _ h
          · rw [b01_f (fun z => q4 z.2), if_pos rfl, if_neg q4]; exact mw2_same _ h
      by_cases q6 : w = 6
      · rw [if_pos q6]; exact main 1 (b01_t q6).symm
      · rw [if_neg q6]; exact main 0 (b01_f q6).symm
    · rw [b01_f q2, if_pos rfl, if_pos rfl]; exact mw2_same _ h
  · rw [b01_f q1, if_pos rfl, if_pos rfl]; exact mw2_same _ h
