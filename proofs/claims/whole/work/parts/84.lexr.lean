/-! the reference reads a token -/
def fN : Nat → Nat → Nat → Bool := fun s _ k => s == 33 && (k == 30 || (k == 31 || (k == 32 || k == 33)))
theorem e85 (d : Nat) (ρ : mj_M) : kc (d + 1) 85 [v_r 33 0] ρ = kd d 85 0 [some (v_r 33 0), none, none] [] ρ := rfl
/-- the reference's numbers of tokens -/
def rt (c : Int) : Int := if c = 14 then 0 else if c = 15 then -1 else if c = 13 then 1 else if c < 3 then 3 else if c < 6 then c + 1 else if c < 12 then 2 else c
def nTk (ρ : mj_M) (T : Nat → Int) (z p : Nat) : Prop := ρ 33 0 30 = (lE T z p : Int) ∧ ρ 33 0 31 = (lS T z p : Int) ∧ ρ 33 0 32 = rt (lK T z p) ∧ (lK T z p < 3 → ρ 33 0 33 = lK T z p) ∧ (6 ≤ lK T z p → lK T z p < 12 → ρ 33 0 33 = lK T z p - 6) ∧ (lK T z p = 13 → ρ 33 0 33 = lV T z p)
theorem w8 (k i : Nat) (hk : k < 12) (hi : i < 8) : mj_w (mj_w (8 * (k : Int)) + (i : Int)) = ((8 * k + i : Nat) : Int) := by
  rw [wi (z := 8 * (k : Int)) (by omega) (by omega), wi (by omega) (by omega)]; omega
theorem kd84 (d s e : Nat) (T : Nat → Int) (hse : s ≤ e) (he : e ≤ 160) (ρ : mj_M) (hT : ∀ i, ρ 40 0 i = T i) (hW : ∀ i, i < 96 → ρ 49 0 i = Wr i) : ∀ (j k : Nat) (o4 o5 : Option mj_V), k + j = 12 → (∀ k', k' < k → ¬ (e - s ≤ 8 ∧ mRw (pd T s e) k')) → mwI (kd d 84 1 [some (v_r 33 0), some (v_i (s : Int)), some (v_i (e : Int)), some (v_i (k : Int)), o4, o5] [] ρ) (fun x ρ' => ρ' = ρ ∧ ((x = 12 ∧ ∀ k, k < 12 → ¬ (e - s ≤ 8 ∧ mRw (pd T s e) k)) ∨ ∃ k : Nat, k < 12 ∧ x = (k : Int) ∧ e - s ≤ 8 ∧ mRw (pd T s e) k)) := by
  intro j
  induction j with
  | zero =>
    intro k o4 o5 hk hn
    have e12 : k = 12 := by omega
    rw [ke84_1, if_neg (by omega)]
    exact mwI_ret ⟨rfl, Or.inl ⟨rfl, e12 ▸ hn⟩⟩
  | succ j ih =>
    intro k o4 o5 hk hn
    have hk12 : k < 12 := by omega
    have hki : (k : Int) < 12 := by omega
    have hks : k + 1 + j = 12 := by omega
    have next : ¬ (e - s ≤ 8 ∧ mRw (pd T s e) k) → mwI (kd d 84 1 [some (v_r 33 0), some (v_i (s : Int)), some (v_i (e : Int)), some (v_i (mj_w ((k : Int) + 1))), none, none] [] ρ) (fun x ρ' => ρ' = ρ ∧ ((x = 12 ∧ ∀ k, k < 12 → ¬ (e - s ≤ 8 ∧ mRw (pd T s e) k)) ∨ ∃ k : Nat, k < 12 ∧ x = (k : Int) ∧ e - s ≤ 8 ∧ mRw (pd T s e) k)) := by
      intro q
      rw [wk k hk12 (by decide)]
      refine ih (k + 1) _ _ hks (fun k' hk' => ?_)
      by_cases ek : k' = k
      · rw [ek]; exact q
      · exact hn k' (Nat.lt_of_le_of_ne (Nat.le_of_lt_succ hk') ek)
    have no : ∀ a5 : Int, ¬ (e - s ≤ 8 ∧ mRw (pd T s e) k) → mwI (kd d 84 4 [some (v_r 33 0), some (v_i (s : Int)), some (v_i (e : Int)), some (v_i (k : Int)), some (v_i 0), some (v_i a5)] [] ρ) (fun x ρ' => ρ' = ρ ∧ ((x = 12 ∧ ∀ k, k < 12 → ¬ (e - s ≤ 8 ∧ mRw (pd T s e) k)) ∨ ∃ k : Nat, k < 12 ∧ x = (k : Int) ∧ e - s ≤ 8 ∧ mRw (pd T s e) k)) := by
      intro a5 q
      rw [ke84_4, if_pos rfl, if_pos rfl]
      split
      · exact next q
      · exact next q
    rw [ke84_1, if_pos hki, wi (z := (e : Int) - (s : Int)) (by omega) (by omega)]
    by_cases q8 : 8 < e - s
    · rw [if_pos (by omega)]
      exact no 0 (fun w => absurd w.1 (Nat.not_le.mpr q8))
    · rw [if_neg (by omega)]
      have four : ∀ i c, c + i = 8 → (∀ c', c' < c → Wr (8 * k + c') = pd T s e c') → mwI (kd d 84 4 [some (v_r 33 0), some (v_i (s : Int)), some (v_i (e : Int)), some (v_i (k : Int)), some (v_i 1), some (v_i (c : Int))] [] ρ) (fun x ρ' => ρ' = ρ ∧ ((x = 12 ∧ ∀ k, k < 12 → ¬ (e - s ≤ 8 ∧ mRw (pd T s e) k)) ∨ ∃ k : Nat, k < 12 ∧ x = (k : Int) ∧ e - s ≤ 8 ∧ mRw (pd T s e) k)) := by
        intro i
        induction i with
        | zero =>
          intro c hc hm
          have c8' : c = 8 := by omega
          have hci : ¬ (c : Int) < 8 := by omega
          rw [ke84_4, if_neg hci, if_neg n10]
          exact mwI_ret ⟨rfl, Or.inr ⟨k, hk12, rfl, Nat.not_lt.mp q8, fun i hi => hm i (c8' ▸ hi)⟩⟩
        | succ i ihi =>
          intro c hc hm
          have hc8 : c < 8 := by omega
          have hci : (c : Int) < 8 := by omega
          have hcs : c + 1 + i = 8 := by omega
          have h96 : 8 * k + c < 96 := by omega
          have hb96 : 0 ≤ ((8 * k + c : Nat) : Int) ∧ ((8 * k + c : Nat) : Int) < 96 := by omega
          have hs160 : s ≤ 160 := by omega
          have hc160 : c ≤ 160 := by omega
          have six : ∀ x o, x = pd T s e c → mwI (kd d 84 6 [some (v_r 33 0), some (v_i (s : Int)), some (v_i (e : Int)), some (v_i (k : Int)), o, some (v_i (c : Int))] [v_i x, v_i (Wr (8 * k + c))] ρ) (fun x ρ' => ρ' = ρ ∧ ((x = 12 ∧ ∀ k, k < 12 → ¬ (e - s ≤ 8 ∧ mRw (pd T s e) k)) ∨ ∃ k : Nat, k < 12 ∧ x = (k : Int) ∧ e - s ≤ 8 ∧ mRw (pd T s e) k)) := by
            intro x o hx
            rw [ke84_6]
            by_cases q : Wr (8 * k + c) = x
            · rw [if_pos q, wk c hc8 (by decide)]
              refine ihi (c + 1) hcs (fun c' hc' => ?_)
              by_cases ec : c' = c
              · rw [ec, q, hx]
              · exact hm c' (Nat.lt_of_le_of_ne (Nat.le_of_lt_succ hc') ec)
            · rw [if_neg q]
              exact no _ (fun w => q ((w.2 c hc8).trans hx.symm))
          rw [ke84_4, if_pos hci, if_neg n10, w8 k c hk12 hc8, if_pos hb96, wadd s c hs160 hc160, Int.toNat_natCast (8 * k + c), hW _ h96]
          by_cases q : s + c < e
          · rw [if_pos (Int.ofNat_lt.mpr q), if_pos ⟨Int.natCast_nonneg _, Int.ofNat_lt.mpr (Nat.lt_of_lt_of_le q he)⟩, Int.toNat_natCast (s + c), hT]
            exact six _ _ (by unfold pd; rw [if_pos q])
          · rw [if_neg (fun w => q (Int.ofNat_lt.mp w))]
            exact six _ _ (by unfold pd; rw [if_neg q])
      exact four 8 0 rfl (fun c' hc' => absurd hc' (Nat.not_lt_zero c'))
theorem word_rel {T : Nat → Int} {s e : Nat} (hl : ∀ i, s ≤ i → i < e → 97 ≤ T i ∧ T i ≤ 122) {x : Int} (h : (x = 12 ∧ ∀ k, k < 12 → ¬ (e - s ≤ 8 ∧ mRw (pd T s e) k)) ∨ ∃ k : Nat, k < 12 ∧ x = (k : Int) ∧ e - s ≤ 8 ∧ mRw (pd T s e) k) : (wC T s e = 15 ∧ x = 12) ∨ ∃ w : Nat, w < 12 ∧ wC T s e = (w : Int) ∧ x = (kap w : Int) := by
  rcases h with ⟨h1, h2⟩ | ⟨k, h1, h2, h3, h4⟩
  · rcases wC_sp T s e with ⟨g1, -⟩ | ⟨w, g1, g2, g3, g4⟩
    · exact Or.inl ⟨g1, h1⟩
    · exact absurd ((m_wr hl w g1).mpr ⟨g2, g3⟩) (h2 _ (kap_lt w g1))
  · obtain ⟨w, hw, rfl⟩ := kap_s k h1
    obtain ⟨m1, m2⟩ := (m_wr hl w hw).mp ⟨h3, h4⟩
    rcases wC_sp T s e with ⟨-, g2⟩ | ⟨v, g1, g2, g3, g4⟩
    · exact absurd m2 (g2 m1 w hw)
    · have ev : v = w := Wt_inj v g1 w hw (fun i hi => (g3 i hi).trans (m2 i hi).symm)
      exact Or.inr ⟨w, hw, by rw [g4, ev], h2⟩
theorem nv_app (T : Nat → Int) : ∀ (j p : Nat) (v : Int), nv T (j + 1) p v = mj_w (mj_w (mj_w (10 * nv T j p v) + T (p + j)) - 48)
  | 0, p, v => rfl
  | j + 1, p, v => by
    rw [nv_s, nv_app T j (p + 1), nv_s, show p + (j + 1) = p + 1 + j by omega]
def fA : Nat → Nat → Nat → Bool := fun s _ k => s == 33 && k == 30
theorem kd85w (d z : Nat) (T : Nat → Int) (hz : z ≤ 160) (Q : mj_M → Prop) : ∀ j p (ρ : mj_M) (o1 o2 : Option mj_V), p + j = z → ρ 33 0 12 = (z : Int) → ρ 33 0 30 = (p : Int) → (∀ i, ρ 40 0 i = T i) → (∀ ρ' o1 o2, fr fA ρ ρ' → ρ' 33 0 30 = (rn T 97 122 j p : Int) → mwV (kd (d + 1) 85 5 [some (v_r 33 0), o1, o2] [] ρ') Q) → mwV (kd (d + 1) 85 4 [some (v_r 33 0), o1, o2] [] ρ) Q := by
  intro j
  induction j with
  | zero =>
    intro p ρ o1 o2 hp h1 h5 hT k
    rw [ke85_4, h1, h5, if_neg (by omega)]
    exact k ρ _ _ fr_rf h5
  | succ j ih =>
    intro p ρ o1 o2 hp h1 h5 hT k
    have hr : rn T 97 122 (j + 1) p = if 97 ≤ T p ∧ T p ≤ 122 then rn T 97 122 j (p + 1) else p := rfl
    rw [hr] at k
    rw [ke85_4, h1, h5, if_pos (by omega), if_pos (by omega), Int.toNat_natCast, hT, kc72, rI_some]
    by_cases q : 97 ≤ T p ∧ T p ≤ 122
    · rw [if_pos q] at k
      rw [b01_t q, if_neg n10, h5, wk p (m := 160) (by omega) (by omega)]
      refine ih (p + 1) _ _ _ (by omega) ?_ (up_eq _ _ _ _ _) (fun i => by rw [up_ns (by decide)]; exact hT i) (fun ρ' o1 o2 f g => k ρ' o1 o2 (fr_tr (fr_up rfl) f) g)
      rw [up_nk (by decide)]; exact h1
    · rw [if_neg q] at k
      rw [b01_f q, if_pos rfl]
      exact k ρ _ _ fr_rf h5
def fV : Nat → Nat → Nat → Bool := fun s _ k => s == 33 && (k == 30 || (k == 32 || k == 33))
theorem kd85n (d z s : Nat) (T : Nat → Int) (hz : z ≤ 160) (ρ0 : mj_M) (h1 : ρ0 33 0 12 = (z : Int)) (hT : ∀ i, ρ0 40 0 i = T i) : ∀ j p (ρ : mj_M) (o1 : Option mj_V), p + j = z → s ≤ p → fr fV ρ0 ρ → ρ 33 0 30 = (p : Int) → (p - s ≤ 4 → ρ 33 0 33 = nv T (p - s) s 0) →
    mwV (kd (d + 1) 85 13 [some (v_r 33 0), o1, some (v_i ((p - s : Nat) : Int))] [] ρ) (fun ρ' => fr fV ρ0 ρ' ∧ ρ' 33 0 30 = (rn T 48 57 j p : Int) ∧ ρ' 33 0 32 = (if 4 < rn T 48 57 j p - s then -1 else 1) ∧ (rn T 48 57 j p - s ≤ 4 → ρ' 33 0 33 = nv T (rn T 48 57 j p - s) s 0)) := by
  have fin : ∀ (p : Nat) (ρ : mj_M), fr fV ρ0 ρ → ρ 33 0 30 = (p : Int) → (p - s ≤ 4 → ρ 33 0 33 = nv T (p - s) s 0) → mwV (if (4 : Int) < ((p - s : Nat) : Int) then some (none, mj_up ρ 33 0 32 (-1)) else some (none, mj_up ρ 33 0 32 1)) (fun ρ' => fr fV ρ0 ρ' ∧ ρ' 33 0 30 = (p : Int) ∧ ρ' 33 0 32 = (if 4 < p - s then -1 else 1) ∧ (p - s ≤ 4 → ρ' 33 0 33 = nv T (p - s) s 0)) := by
    intro p ρ hf h5 hv
    by_cases q : 4 < p - s
    · rw [if_pos (show (4 : Int) < ((p - s : Nat) : Int) from Int.ofNat_lt.mpr q), if_pos q]
      exact mwV_ret ⟨fr_tr hf (fr_up rfl), by rw [up_nk (by decide)]; exact h5, up_eq _ _ _ _ _, fun w => absurd w (Nat.not_le.mpr q)⟩
    · rw [if_neg (show ¬ (4 : Int) < ((p - s : Nat) : Int) from fun w => q (Int.ofNat_lt.mp w)), if_neg q]
      exact mwV_ret ⟨fr_tr hf (fr_up rfl), by rw [up_nk (by decide)]; exact h5, up_eq _ _ _ _ _, fun w => by rw [up_nk (by decide)]; exact hv w⟩
  intro j
  induction j with
  | zero =>
    intro p ρ o1 hp hs hf h5 hv
    rw [ke85_13, h5, (hf 33 0 12 rfl).trans h1, if_neg (by omega)]
    exact fin p ρ hf h5 hv
  | succ j ih =>
    intro p ρ o1 hp hs hf h5 hv
    have hr : rn T 48 57 (j + 1) p = if 48 ≤ T p ∧ T p ≤ 57 then rn T 48 57 j (p + 1) else p := rfl
    have hpz : (p : Int) < (z : Int) := by omega
    have hb : 0 ≤ (p : Int) ∧ (p : Int) < 160 := by omega
    have hp160 : p < 160 := by omega
    have hps : p + 1 + j = z := by omega
    have hsp : s ≤ p + 1 := by omega
    have es : p + 1 - s = (p - s) + 1 := by omega
    have hps' : p - s < 160 := by omega
    have esp : s + (p - s) = p := by omega
    rw [ke85_13, h5, (hf 33 0 12 rfl).trans h1, if_pos hpz, if_pos hb, Int.toNat_natCast, (hf 40 0 p rfl).trans (hT p), kc72, rI_some, hr]
    by_cases q : 48 ≤ T p ∧ T p ≤ 57
    · rw [b01_t q, if_neg n10, if_pos q, wk (p - s) hps' (by decide), h5, wk p hp160 (by decide)]
      have ih' := fun ρ' => ih (p + 1) ρ' none hps hsp
      rw [es] at ih'
      by_cases q4 : p - s < 4
      · rw [if_pos (show ((p - s : Nat) : Int) < 4 from Int.ofNat_lt.mpr q4), if_pos hb, Int.toNat_natCast, hv (Nat.le_of_lt q4), (hf 40 0 p rfl).trans (hT p)]
        refine ih' _ (fr_tr (fr_tr hf (fr_up rfl)) (fr_up rfl)) (up_eq _ _ _ _ _) (fun _ => ?_)
        rw [up_nk (by decide), up_eq, nv_app, esp]
      · rw [if_neg (show ¬ ((p - s : Nat) : Int) < 4 from fun w => q4 (Int.ofNat_lt.mp w))]
        refine ih' _ (fr_tr (fr_tr hf (fr_up rfl)) (fr_up rfl)) (up_eq _ _ _ _ _) (fun w => absurd w (by omega))
    · rw [b01_f q, if_pos rfl, if_neg q]
      exact fin p ρ hf h5 hv
theorem rt_w (w : Nat) (h : w < 12) : (w < 3 → rt (w : Int) = 3) ∧ (¬ w < 3 → w < 6 → rt (w : Int) = (w : Int) + 1) ∧ (¬ w < 6 → rt (w : Int) = 2) := by
  unfold rt
  rw [if_neg (by omega), if_neg (by omega), if_neg (by omega)]
  refine ⟨fun q => ?_, fun q q' => ?_, fun q => ?_⟩
  · rw [if_pos (by omega)]
  · rw [if_neg (by omega), if_pos (by omega)]
  · rw [if_neg (by omega), if_neg (by omega), if_pos (by omega)]
theorem rt_sg {b : Int} (h : isSg b) : rt b = b ∧ ¬ b < 3 ∧ ¬ b < 12 ∧ b ≠ 13 := by
  unfold isSg at h
  unfold rt
  rw [if_neg (by omega), if_neg (by omega), if_neg (by omega), if_neg (by omega), if_neg (by omega), if_neg (by omega)]
  omega
theorem kap_c (w : Nat) (h : w < 12) : (w < 3 → kap w = w) ∧ (¬ w < 3 → w < 6 → kap w = w + 6) ∧ (¬ w < 6 → kap w = w - 3) := by
  unfold kap
  refine ⟨fun q => if_pos q, fun q q' => ?_, fun q => ?_⟩
  · rw [if_neg q, if_pos q']
  · rw [if_neg (by omega), if_neg q]
theorem w49 (w : Nat) (h : w < 6) : mj_w (mj_w (4 + ((w + 6 : Nat) : Int)) - 9) = (w : Int) + 1 := by
  rw [wi (z := 4 + ((w + 6 : Nat) : Int)) (by omega) (by omega), wi (by omega) (by omega)]; omega
theorem w33 (w : Nat) (h : w < 12) (h' : ¬ w < 6) : mj_w (((w - 3 : Nat) : Int) - 3) = (w : Int) - 6 := by
  rw [wi (by omega) (by omega)]; omega
theorem kc85 (d z p : Nat) (T : Nat → Int) (hz : z ≤ 160) (hp : p ≤ z) (ρ : mj_M) (h1 : ρ 33 0 12 = (z : Int)) (h5 : ρ 33 0 30 = (p : Int)) (hT : ∀ i, ρ 40 0 i = T i) (hW : ∀ i, i < 96 → ρ 49 0 i = Wr i) : mwV (kc (d + 2) 85 [v_r 33 0] ρ) (fun ρ' => nTk ρ' T z p ∧ fr fN ρ ρ') := by
  rw [e85]
  have two : ∀ (ρ1 : mj_M) o1 o2, fr fN ρ ρ1 → ρ1 33 0 30 = (lS T z p : Int) → mwV (kd (d + 1) 85 2 [some (v_r 33 0), o1, o2] [] ρ1) (fun ρ' => nTk ρ' T z p ∧ fr fN ρ ρ') := by
    intro ρ1 o1 o2 hf hs
    have hb := lS_b (T := T) hp
    have hE := lE_b (T := T) hp
    have hE160 : lE T z p ≤ 160 := Nat.le_trans hE.2.1 hz
    rw [ke85_2, hs, (hf 33 0 12 rfl).trans h1]
    by_cases q0 : lS T z p = z
    · have hK : lK T z p = 14 := lK_end q0
      have hE0 : lE T z p = z := if_pos q0
      rw [if_pos (by rw [q0])]
      refine mwV_ret ⟨⟨?_, ?_, ?_, fun w => ?_, fun _ w => ?_, fun w => ?_⟩, fr_tr hf (fr_tr (fr_tr (fr_up rfl) (fr_up rfl)) (fr_up rfl))⟩
      · rw [up_nk (by decide), up_nk (by decide), up_nk (by decide), hs, q0, hE0]
      · rw [up_nk (by decide), up_nk (by decide), up_eq]
      · rw [up_nk (by decide), up_eq, hK]; rfl
      · rw [hK] at w; exact absurd w (by decide)
      · rw [hK] at w; exact absurd w (by decide)
      · rw [hK] at w; exact absurd w (by decide)
    · have hslt : lS T z p < z := Nat.lt_of_le_of_ne hb.2 q0
      have hs160 : lS T z p < 160 := Nat.lt_of_lt_of_le hslt hz
      have hsz : lS T z p + (z - lS T z p) = z := Nat.add_sub_cancel' hb.2
      have hT1 : ∀ i, ρ1 40 0 i = T i := fun i => (hf 40 0 i rfl).trans (hT i)
      have eE : lE T z p = if 97 ≤ T (lS T z p) ∧ T (lS T z p) ≤ 122 then rn T 97 122 (z - lS T z p) (lS T z p) else if 48 ≤ T (lS T z p) ∧ T (lS T z p) ≤ 57 then rn T 48 57 (z - lS T z p) (lS T z p) else lS T z p + 1 := if_neg q0
      have eC : lK T z p = if 97 ≤ T (lS T z p) ∧ T (lS T z p) ≤ 122 then wC T (lS T z p) (lE T z p) else if 48 ≤ T (lS T z p) ∧ T (lS T z p) ≤ 57 then (if 4 < lE T z p - lS T z p then 15 else 13) else @ite Int (isSg (T (lS T z p))) (Classical.propDecidable _) (T (lS T z p)) 15 := if_neg q0
      rw [if_neg (show ¬ ((lS T z p : Nat) : Int) = (z : Int) from fun w => q0 (Int.ofNat.inj w)), if_pos ⟨Int.natCast_nonneg _, Int.ofNat_lt.mpr hs160⟩, Int.toNat_natCast, hT1, kc72, rI_some]
      generalize hρ2 : mj_up (mj_up (mj_up ρ1 33 0 31 (lS T z p : Int)) 33 0 32 0) 33 0 33 0 = ρ2
      have hf2 : fr fN ρ ρ2 := by rw [← hρ2]; exact fr_tr hf (fr_tr (fr_tr (fr_up rfl) (fr_up rfl)) (fr_up rfl))
      have h231 : ρ2 33 0 31 = (lS T z p : Int) := by rw [← hρ2, up_nk (by decide), up_nk (by decide), up_eq]
      have h230 : ρ2 33 0 30 = (lS T z p : Int) := by rw [← hρ2, up_nk (by decide), up_nk (by decide), up_nk (by decide)]; exact hs
      have h233 : ρ2 33 0 33 = 0 := by rw [← hρ2]; exact up_eq _ _ _ _ _
      have h212 : ρ2 33 0 12 = (z : Int) := (hf2 33 0 12 rfl).trans h1
      have hT2 : ∀ i, ρ2 40 0 i = T i := fun i => (hf2 40 0 i rfl).trans (hT i)
      by_cases q1 : 97 ≤ T (lS T z p) ∧ T (lS T z p) ≤ 122
      · rw [if_pos q1] at eE eC
        rw [b01_t q1, if_neg n10]
        refine kd85w d z T hz _ (z - lS T z p) (lS T z p) ρ2 _ _ hsz h212 h230 hT2 (fun ρ3 o1 o2 g2 g1 => ?_)
        rw [← eE] at g1
        have h331 : ρ3 33 0 31 = (lS T z p : Int) := (g2 33 0 31 rfl).trans h231
        have hl : ∀ i, lS T z p ≤ i → i < lE T z p → 97 ≤ T i ∧ T i ≤ 122 := fun i a b => rn_in T 97 122 (z - lS T z p) (lS T z p) i a (by rw [← eE]; exact b)
        have hf3 : fr fN ρ ρ3 := fr_tr hf2 (fr_no g2 (fun s i k q => by simp [fA] at q; simp [fN]; omega))
        rw [ke85_5, h331, g1, ke84_0]
        refine mwV_rI (mwI_mono (kd84 d (lS T z p) (lE T z p) T hE.1 hE160 ρ3 (fun i => (hf3 40 0 i rfl).trans (hT i)) (fun i hi => (hf3 49 0 i rfl).trans (hW i hi)) 12 0 none none rfl (fun k hk => absurd hk (Nat.not_lt_zero k))) (fun x ρ4 g => ?_))
        obtain ⟨rfl, hx⟩ := g
        have fin : ∀ (tk v : Int), tk = rt (lK T z p) → (lK T z p < 3 → v = lK T z p) → (6 ≤ lK T z p → lK T z p < 12 → v = lK T z p - 6) → (lK T z p ≠ 13) → mwV (some (none, mj_up (mj_up ρ4 33 0 32 tk) 33 0 33 v)) (fun ρ' => nTk ρ' T z p ∧ fr fN ρ ρ') := by
          intro tk v a1 a2 a3 a4
          refine mwV_ret ⟨⟨?_, ?_, ?_, fun w => ?_, fun w w' => ?_, fun w => absurd w a4⟩, fr_tr hf3 (fr_tr (fr_up rfl) (fr_up rfl))⟩
          · rw [up_nk (by decide), up_nk (by decide)]; exact g1
          · rw [up_nk (by decide), up_nk (by decide)]; exact h331
          · rw [up_nk (by decide), up_eq]; exact a1
          · rw [up_eq]; exact a2 w
          · rw [up_eq]; exact a3 w w'
        rcases word_rel hl hx with ⟨w1, rfl⟩ | ⟨w, hw, w1, rfl⟩
        · have hK : lK T z p = 15 := eC.trans w1
          rw [if_neg (by decide), if_neg (by decide), if_pos rfl, ke85_9, if_neg (by decide)]
          exact fin _ _ (by rw [hK]; rfl) (fun w => by rw [hK] at w; exact absurd w (by decide)) (fun _ w => by rw [hK] at w; exact absurd w (by decide)) (by rw [hK]; decide)
        · have hK : lK T z p = (w : Int) := eC.trans w1
          obtain ⟨r1, r2, r3⟩ := rt_w w hw
          obtain ⟨k1, k2, k3⟩ := kap_c w hw
          clear eC eE
          by_cases c1 : w < 3
          · rw [k1 c1, if_pos (show (w : Int) < 3 by omega), ke85_9, if_pos (show (w : Int) < 3 by omega)]
            exact fin _ _ (by rw [hK, r1 c1]) (fun _ => hK.symm) (fun w' _ => by rw [hK] at w'; omega) (by rw [hK]; omega)
          · by_cases c2 : w < 6
            · rw [k2 c1 c2, if_neg (show ¬ ((w + 6 : Nat) : Int) < 3 by omega), if_neg (show ¬ ((w + 6 : Nat) : Int) < 9 by omega), if_neg (show ¬ ((w + 6 : Nat) : Int) = 12 by omega), w49 w c2, ke85_9, if_neg (show ¬ ((w + 6 : Nat) : Int) < 3 by omega)]
              exact fin _ _ (by rw [hK, r2 c1 c2]) (fun w' => by rw [hK] at w'; omega) (fun w' _ => by rw [hK] at w'; omega) (by rw [hK]; omega)
            · rw [k3 c2, if_neg (show ¬ ((w - 3 : Nat) : Int) < 3 by omega), if_pos (show ((w - 3 : Nat) : Int) < 9 by omega), ke85_9, if_neg (show ¬ ((w - 3 : Nat) : Int) < 3 by omega), w33 w hw c2]
              exact fin _ _ (by rw [hK, r3 c2]) (fun w' => by rw [hK] at w'; omega) (fun _ _ => by rw [hK]) (by rw [hK]; omega)
      · rw [if_neg q1] at eE eC
        rw [b01_f q1, if_pos rfl, kc72, rI_some]
        by_cases q2 : 48 ≤ T (lS T z p) ∧ T (lS T z p) ≤ 57
        · rw [if_pos q2] at eE eC
          rw [b01_t q2, if_neg n10]
          have h0 := kd85n d z (lS T z p) T hz ρ2 h212 hT2 (z - lS T z p) (lS T z p) ρ2 (some (v_i (T (lS T z p)))) hsz (Nat.le_refl _) fr_rf h230 (fun _ => by rw [h233, Nat.sub_self]; rfl)
          rw [Nat.sub_self, ← eE] at h0
          refine mwV_mono h0 (fun ρ3 g => ?_)
          obtain ⟨g1, g2, g3, g4⟩ := g
          have hN : ∀ s i k, fN s i k = false → fV s i k = false := fun s i k q => by
            cases c : fV s i k with
            | false => rfl
            | true => exfalso; simp [fV] at c; simp [fN] at q; omega
          refine ⟨⟨g2, (g1 33 0 31 rfl).trans h231, ?_, fun w => ?_, fun _ w => ?_, fun w => ?_⟩, fr_tr hf2 (fr_mono g1 hN)⟩
          · rw [g3, eC]
            by_cases q4 : 4 < lE T z p - lS T z p
            · rw [if_pos q4, if_pos q4]; rfl
            · rw [if_neg q4, if_neg q4]; rfl
          · rw [eC] at w
            by_cases q4 : 4 < lE T z p - lS T z p
            · rw [if_pos q4] at w; exact absurd w (by decide)
            · rw [if_neg q4] at w; exact absurd w (by decide)
          · rw [eC] at w
            by_cases q4 : 4 < lE T z p - lS T z p
            · rw [if_pos q4] at w; exact absurd w (by decide)
            · rw [if_neg q4] at w; exact absurd w (by decide)
          · rw [eC] at w
            by_cases q4 : 4 < lE T z p - lS T z p
            · rw [if_pos q4] at w; exact absurd w (by decide)
            · exact g4 (Nat.not_lt.mp q4)
        · rw [if_neg q2] at eE eC
          rw [b01_f q2, if_pos rfl]
          have fin : ∀ (x b : Int) (o2 : Option mj_V), ((x = 0 ∧ ¬ isSg b) ∨ (x = 1 ∧ isSg b)) → b = T (lS T z p) → mwV (kd (d + 1) 85 22 [some (v_r 33 0), some (v_i b), o2] [v_i x] ρ2) (fun ρ' => nTk ρ' T z p ∧ fr fN ρ ρ') := by
            intro x b o2 hx hb'
            rw [ke85_22, h230, wk (lS T z p) hs160 (by decide)]
            rw [← hb'] at eC
            have fin2 : ∀ tk, tk = rt (lK T z p) → ¬ lK T z p < 3 → ¬ lK T z p < 12 → lK T z p ≠ 13 → mwV (some (none, mj_up (mj_up ρ2 33 0 32 tk) 33 0 30 ((lS T z p + 1 : Nat) : Int))) (fun ρ' => nTk ρ' T z p ∧ fr fN ρ ρ') := by
              intro tk a1 a2 a3 a4
              refine mwV_ret ⟨⟨?_, ?_, ?_, fun w => absurd w a2, fun _ w => absurd w a3, fun w => absurd w a4⟩, fr_tr hf2 (fr_tr (fr_up rfl) (fr_up rfl))⟩
              · rw [up_eq, eE]
              · rw [up_nk (by decide), up_nk (by decide)]; exact h231
              · rw [up_nk (by decide), up_eq]; exact a1
            rcases hx with ⟨rfl, hx⟩ | ⟨rfl, hx⟩
            · rw [if_neg hx] at eC
              rw [if_pos rfl]
              exact fin2 _ (by rw [eC]; rfl) (by rw [eC]; decide) (by rw [eC]; decide) (by rw [eC]; decide)
            · rw [if_pos hx] at eC
              obtain ⟨r1, r2, r3, r4⟩ := rt_sg hx
              rw [if_neg n10]
              exact fin2 _ (by rw [eC, r1]) (by rw [eC]; exact r2) (by rw [eC]; exact r3) (by rw [eC]; exact r4)
          have sg : ∀ b : Int, isSg b ∨ (b ≠ 40 ∧ b ≠ 41 ∧ b ≠ 59 ∧ b ≠ 43 ∧ b ≠ 45 ∧ b ≠ 42 ∧ b ≠ 60 ∧ b ≠ 61) := fun b => by unfold isSg; omega
          generalize hbb : T (lS T z p) = b at fin
          by_cases s1 : b = 40
          · rw [if_pos s1]; exact fin 1 b _ (Or.inr ⟨rfl, Or.inl s1⟩) rfl
          rw [if_neg s1]
          by_cases s2 : b = 41
          · rw [if_pos s2]; exact fin 1 b _ (Or.inr ⟨rfl, Or.inr (Or.inl s2)⟩) rfl
          rw [if_neg s2]
          by_cases s3 : b = 59
          · rw [if_pos s3]; exact fin 1 b _ (Or.inr ⟨rfl, Or.inr (Or.inr (Or.inl s3))⟩) rfl
          rw [if_neg s3]
          by_cases s4 : b = 43
          · rw [if_pos s4]; exact fin 1 b _ (Or.inr ⟨rfl, Or.inr (Or.inr (Or.inr (Or.inl s4)))⟩) rfl
          rw [if_neg s4]
          by_cases s5 : b = 45
          · rw [if_pos s5]; exact fin 1 b _ (Or.inr ⟨rfl, Or.inr (Or.inr (Or.inr (Or.inr (Or.inl s5))))⟩) rfl
          rw [if_neg s5]
          by_cases s6 : b = 42
          · rw [if_pos s6]; exact fin 1 b _ (Or.inr ⟨rfl, Or.inr (Or.inr (Or.inr (Or.inr (Or.inr (Or.inl s6)))))⟩) rfl
          rw [if_neg s6]
          by_cases s7 : b = 60
          · rw [if_pos s7]; exact fin 1 b _ (Or.inr ⟨rfl, Or.inr (Or.inr (Or.inr (Or.inr (Or.inr (Or.inr (Or.inl s7))))))⟩) rfl
          rw [if_neg s7]
          by_cases s8 : b = 61
          · rw [if_pos s8]; exact fin 1 b _ (Or.inr ⟨rfl, Or.inr (Or.inr (Or.inr (Or.inr (Or.inr (Or.inr (Or.inr s8))))))⟩) rfl
          rw [if_neg s8]
          exact fin 0 b _ (Or.inl ⟨rfl, fun w => by unfold isSg at w; omega⟩) rfl
  have one : ∀ j q (ρ1 : mj_M) o1 o2, q + j = z → fr fN ρ ρ1 → ρ1 33 0 30 = (q : Int) → sk T j q = lS T z p → mwV (kd (d + 1) 85 0 [some (v_r 33 0), o1, o2] [] ρ1) (fun ρ' => nTk ρ' T z p ∧ fr fN ρ ρ') := by
    intro j
    induction j with
    | zero =>
      intro q ρ1 o1 o2 hq hf hs hk
      have ek : q = lS T z p := hk
      have hqz : q = z := hq
      rw [ke85_0, hs, (hf 33 0 12 rfl).trans h1, if_neg (fun w => absurd (Int.ofNat_lt.mp w) (by rw [hqz]; exact Nat.lt_irrefl z))]
      exact two ρ1 _ _ hf (ek ▸ hs)
    | succ j ih =>
      intro q ρ1 o1 o2 hq hf hs hk
      have hk2 : sk T (j + 1) q = if T q = 32 ∨ T q = 10 then sk T j (q + 1) else q := rfl
      rw [hk2] at hk
      have hqz : q < z := by rw [← hq]; exact Nat.lt_add_of_pos_right (Nat.succ_pos j)
      have hqs : q + 1 + j = z := by rw [← hq, Nat.add_assoc, Nat.add_comm 1 j]
      have hq160 : q < 160 := Nat.lt_of_lt_of_le hqz hz
      have hb160 : 0 ≤ (q : Int) ∧ (q : Int) < 160 := ⟨Int.natCast_nonneg _, Int.ofNat_lt.mpr hq160⟩
      rw [ke85_0, hs, (hf 33 0 12 rfl).trans h1, if_pos (Int.ofNat_lt.mpr hqz), if_pos hb160, Int.toNat_natCast, (hf 40 0 q rfl).trans (hT q), wk q hq160 (by decide)]
      have next : (T q = 32 ∨ T q = 10) → mwV (kd (d + 1) 85 0 [some (v_r 33 0), none, none] [] (mj_up ρ1 33 0 30 ((q + 1 : Nat) : Int))) (fun ρ' => nTk ρ' T z p ∧ fr fN ρ ρ') := fun w => ih (q + 1) _ _ _ hqs (fr_tr hf (fr_up rfl)) (up_eq _ _ _ _ _) (by rw [if_pos w] at hk; exact hk)
      by_cases w1 : T q = 32
      · rw [if_pos w1]; exact next (Or.inl w1)
      · rw [if_neg w1, if_pos hb160]
        by_cases w2 : T q = 10
        · rw [if_pos w2]; exact next (Or.inr w2)
        · rw [if_neg w2]
          rw [if_neg (fun w => w.elim w1 w2)] at hk
          exact two ρ1 _ _ hf (hk ▸ hs)
  exact one (z - p) p ρ _ _ (Nat.add_sub_cancel' hp) fr_rf h5 rfl
