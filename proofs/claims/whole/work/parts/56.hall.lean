/-! calls that tell of the hall, or change a thing in it -/
theorem n10 : ¬ (1 : Int) = 0 := by decide
theorem mC_up {μ : mj_M} {s i k : Nat} {x : Int} (h : sC s i k = false) : mC (mj_up μ s i k x) = mj_up (mC μ) s i k x := by
  funext s' i' k'
  unfold mC
  rw [up_ap, up_ap]
  by_cases e : s' = s ∧ k' = k ∧ i' = i
  · rw [if_pos e, if_pos e, if_neg (by rw [e.1, e.2.1, e.2.2, h]; decide)]
  · rw [if_neg e, if_neg e]
theorem mR_up {μ : mj_M} {s i k : Nat} {x : Int} (h : sR s i k = false) : mR (mj_up μ s i k x) = mj_up (mR μ) s i k x := by
  funext s' i' k'
  unfold mR
  rw [up_ap, up_ap]
  by_cases e : s' = s ∧ k' = k ∧ i' = i
  · rw [if_pos e, if_pos e, if_neg (by rw [e.1, e.2.1, e.2.2, h]; decide)]
  · rw [if_neg e, if_neg e]
/-- where each stands -/
def nT : Nat → Nat → Nat → Bool := fun s i k => !(s == 10 || s == 11 || (s == 0 && k == 5) || (s == 1 && i == 0 && k == 9))
def nT' : Nat → Nat → Nat → Bool := fun s _ k => !(s == 41 || s == 42 || (s == 33 && (k == 15 || k == 16)))
def nP : Nat → Nat → Nat → Bool := fun s _ k => !(s == 15 || (s == 14 && k == 1))
def nP' : Nat → Nat → Nat → Bool := fun s _ k => !(s == 40 || s == 49 || (s == 33 && k == 12))
def nM : Nat → Nat → Nat → Bool := fun s i k => !((s == 0 && k == 2) || ([1, 2, 3, 4, 5].contains s && i == 1))
def nM' : Nat → Nat → Nat → Bool := fun s _ k => !(s == 43 || s == 44 || (s == 33 && [17, 18, 19, 20, 21, 22, 23].contains k))
def nS : Nat → Nat → Nat → Bool := fun s _ _ => !(s == 19 || s == 20)
def nS' : Nat → Nat → Nat → Bool := fun s _ _ => !(s == 45 || s == 46 || s == 47)
theorem vText_cg {μ μ' ρ ρ' : mj_M} {t tc : Nat} (h : vText μ ρ t tc) (f : fr nT μ μ') (f' : fr nT' ρ ρ') : vText μ' ρ' t tc := by
  obtain ⟨⟨h1, h2, h3, h4, h5, h6⟩, h7⟩ := h
  refine ⟨⟨h1, h2, ?_, ?_, ?_, ?_⟩, fun j hj => ?_⟩
  · rw [f 1 0 9 rfl]; exact h3
  · rw [f' 33 0 16 rfl]; exact h4
  · rw [f 0 0 5 rfl]; exact h5
  · rw [f' 33 0 15 rfl]; exact h6
  · obtain ⟨g, e, ⟨g1, g2⟩, ⟨g3, g4⟩, g5⟩ := h7 j hj
    exact ⟨g, e, ⟨fun p hp => by rw [f 11 j p rfl]; exact g1 p hp, fun i hi => by rw [f 10 j i rfl]; exact g2 i hi⟩, ⟨fun p hp => by rw [f' 42 0 _ rfl]; exact g3 p hp, fun i hi => by rw [f' 41 0 _ rfl]; exact g4 i hi⟩, g5⟩
theorem vTape_cg {μ μ' ρ ρ' : mj_M} {z : Nat} (h : vTape μ ρ z) (f : fr nP μ μ') (f' : fr nP' ρ ρ') : vTape μ' ρ' z := by
  obtain ⟨⟨h1, h2, h3⟩, h4⟩ := h
  refine ⟨⟨h1, ?_, ?_⟩, fun i => ⟨fun hi => ?_, fun hi => ?_⟩⟩
  · rw [f 14 0 1 rfl]; exact h2
  · rw [f' 33 0 12 rfl]; exact h3
  · rw [f' 40 0 i rfl, f 15 0 i rfl]; exact (h4 i).1 hi
  · rw [f' 49 0 i rfl]; exact (h4 i).2 hi
theorem vImg_cg {μ μ' ρ ρ' : mj_M} {m tc : Nat} (h : vImg μ ρ m tc) (f : fr nM μ μ') (f' : fr nM' ρ ρ') : vImg μ' ρ' m tc := by
  rcases h with ⟨h1, h2⟩ | ⟨h1, h2, n', m', t', ⟨p1, p2, p3, p4, p5, p6, p7, p8, p9⟩, ⟨q1, q2, q3⟩, ⟨r1, r2⟩, hc, ha⟩
  · exact Or.inl ⟨by rw [f 0 0 2 rfl]; exact h1, by rw [f' 33 0 17 rfl]; exact h2⟩
  · refine Or.inr ⟨by rw [f 0 0 2 rfl]; exact h1, by rw [f' 33 0 17 rfl]; exact h2, n', m', t', ⟨p1, p2, p3, ?_, ?_, ?_, ?_, ?_, ?_⟩, ⟨?_, ?_, ?_⟩, ⟨?_, ?_⟩, fun c hc' => ?_, fun a ha' => ?_⟩
    · rw [f 1 1 0 rfl]; exact p4
    · rw [f' 33 0 18 rfl]; exact p5
    · rw [f 1 1 4 rfl]; exact p6
    · rw [f' 33 0 22 rfl]; exact p7
    · rw [f 1 1 9 rfl]; exact p8
    · rw [f' 33 0 23 rfl]; exact p9
    · rw [f 1 1 6 rfl, f' 33 0 19 rfl]; exact q1
    · rw [f 1 1 7 rfl, f' 33 0 20 rfl]; exact q2
    · rw [f 1 1 8 rfl, f' 33 0 21 rfl]; exact q3
    · rw [f 1 1 10 rfl]; exact r1
    · rw [f 1 1 11 rfl]; exact r2
    · rw [f' 43 0 _ rfl, f' 43 0 _ rfl, f' 43 0 _ rfl, f 2 1 c rfl, f 3 1 c rfl, f 4 1 c rfl]; exact hc c hc'
    · rw [f' 44 0 a rfl, f 5 1 a rfl]; exact ha a ha'
theorem vSheets_cg {μ μ' ρ ρ' : mj_M} (h : vSheets μ ρ) (f : fr nS μ μ') (f' : fr nS' ρ ρ') : vSheets μ' ρ' := by
  intro s hs
  obtain ⟨h1, h2, h3⟩ := h s hs
  refine ⟨?_, ?_, fun i hi => ?_⟩
  · rw [f' 45 0 s rfl, f 19 s 0 rfl]; exact h1
  · rw [f' 46 0 s rfl, f 19 s 1 rfl]; exact h2
  · rw [f' 47 0 _ rfl, f 20 s i rfl]; exact h3 i hi
theorem mw2_same {μ ρ : mj_M} (x : Int) (h : Inv μ ρ) : mw2 (some (some (v_i x), μ)) (some (some (v_i x), ρ)) := ⟨x, μ, ρ, rfl, rfl, h⟩
theorem mw2_eq {μ ρ : mj_M} {x y : Int} (e : y = x) (h : Inv μ ρ) : mw2 (some (some (v_i x), μ)) (some (some (v_i y), ρ)) := ⟨x, μ, ρ, rfl, by rw [e], h⟩
theorem op_move (d : Nat) (a v : Int) {μ ρ : mj_M} (h : Inv μ ρ) : mw2 (kc (d + 20) 9 [v_r 0 0, v_i a, v_i v] μ) (kc (d + 20) 101 [v_r 33 0, v_i a, v_i v] ρ) := by
  have h0 := h
  obtain ⟨n, m, t, tc, z, ⟨⟨a1, a2, a3, a4, a5, a6⟩, hb, hc4, hcs, has⟩, hT, hP, hM, hS⟩ := h
  have cm : μ 1 0 4 = (m : Int) := a5
  have rm : ρ 33 0 5 = (m : Int) := a6
  rw [ke9_0, ke101_0, kc50 (d + 17) a μ m cm (by omega), kc75 (d + 17) a ρ m rm (by omega), rI_some, rI_some]
  by_cases q : 0 ≤ a ∧ a < (m : Int)
  · rw [b01_t q, if_neg n10, if_neg n10, kc44, kc72, rI_some, rI_some]
    by_cases qv : 0 ≤ v ∧ v ≤ 119
    · obtain ⟨k, rfl⟩ : ∃ k : Nat, a = k := ⟨a.toNat, by omega⟩
      have hb16 : 0 ≤ (k : Int) ∧ (k : Int) < 16 := by omega
      have hb17 : 0 ≤ (k : Int) ∧ (k : Int) < 17 := by omega
      rw [b01_t qv, if_neg n10, if_neg n10, if_pos hb16, if_pos hb16, if_pos hb17, if_pos hb17, Int.toNat_natCast]
      refine mw2_eq (has k (by omega)).2.2.2.2.1 ⟨n, m, t, tc, z, ?_⟩
      rw [mC_up rfl, mR_up rfl]
      refine ⟨⟨⟨a1, a2, a3, a4, a5, a6⟩, hb, hc4, hcs, fun b hb' => ?_⟩, vText_cg hT (fr_up rfl) (fr_up rfl), vTape_cg hP (fr_up rfl) (fr_up rfl), vImg_cg hM (fr_up rfl) (fr_up rfl), vSheets_cg hS (fr_up rfl) (fr_up rfl)⟩
      obtain ⟨p1, p2, p3, p4, p5⟩ := has b hb'
      refine ⟨p1, p2, p3, p4, ?_⟩
      by_cases e : b = k
      · rw [e, up_eq, up_eq]; exact ⟨rfl, qv⟩
      · rw [up_nk e, up_nk e]; exact p5
    · rw [b01_f qv, if_pos rfl, if_pos rfl]; exact mw2_same _ h0
  · rw [b01_f q, if_pos rfl, if_pos rfl]; exact mw2_same _ h0
theorem op_count (d : Nat) (w : Int) {μ ρ : mj_M} (h : Inv μ ρ) : mw2 (kc (d + 20) 4 [v_r 0 0, v_i w] μ) (kc (d + 20) 81 [v_r 33 0, v_i w] ρ) := by
  have h0 := h
  obtain ⟨n, m, t, tc, z, ⟨⟨a1, a2, a3, a4, a5, a6⟩, ⟨⟨b1, -⟩, ⟨b2, -⟩, ⟨b3, -⟩⟩, hc4, hcs, has⟩, ⟨⟨t1, t2, t3, t4, t5, t6⟩, -⟩, ⟨⟨z1, z2, z3⟩, -⟩, hM, hS⟩ := h
  have b1' : ρ 33 0 2 = μ 1 0 6 := b1
  have b2' : ρ 33 0 3 = μ 1 0 7 := b2
  have b3' : ρ 33 0 4 = μ 1 0 8 := b3
  have e1 : ρ 33 0 0 = μ 1 0 0 := a4.trans a3.symm
  have e2 : ρ 33 0 5 = μ 1 0 4 := a6.trans a5.symm
  have e3 : ρ 33 0 15 = μ 0 0 5 := t6.trans t5.symm
  have e4 : ρ 33 0 16 = μ 1 0 9 := t4.trans t3.symm
  have e5 : ρ 33 0 12 = μ 14 0 1 := z3.trans z2.symm
  rw [ke4_0, ke81_0, ke54_0, b1', b2', b3', e1, e2, e3, e4, e5]
  by_cases w0 : w = 0
  · rw [if_pos w0, if_pos w0, if_pos w0, rI_some]; exact mw2_same _ h0
  rw [if_neg w0, if_neg w0, if_neg w0]
  by_cases w1 : w = 1
  · rw [if_pos w1, if_pos w1, if_pos w1, rI_some]; exact mw2_same _ h0
  rw [if_neg w1, if_neg w1, if_neg w1, rI_some]
  by_cases w2 : w = 2
  · rw [if_pos w2, if_pos w2]; exact mw2_same _ h0
  rw [if_neg w2, if_neg w2]
  by_cases w3 : w = 3
  · rw [if_pos w3, if_pos w3]; exact mw2_same _ h0
  rw [if_neg w3, if_neg w3]
  by_cases w4 : w = 4
  · rw [if_pos w4, if_pos w4]; exact mw2_same _ h0
  rw [if_neg w4, if_neg w4]
  by_cases w5 : w = 5
  · rw [if_pos w5, if_pos w5]; exact mw2_same _ h0
  rw [if_neg w5, if_neg w5]
  by_cases w6 : w = 6
  · rw [if_pos w6, if_pos w6]; exact mw2_same _ h0
  rw [if_neg w6, if_neg w6]
  by_cases w7 : w = 7
  · rw [if_pos w7, if_pos w7]; exact mw2_same _ h0
  rw [if_neg w7, if_neg w7]; exact mw2_same _ h0
theorem op_told (d : Nat) (a w : Int) {μ ρ : mj_M} (h : Inv μ ρ) : mw2 (kc (d + 20) 11 [v_r 0 0, v_i a, v_i w] μ) (kc (d + 20) 104 [v_r 33 0, v_i a, v_i w] ρ) := by
  have h0 := h
  obtain ⟨I, s, hD, -⟩ := Inv_day h
  obtain ⟨n4, m16, t6, cn, rn, cm, rm⟩ := dAll_n hD
  rw [ke11_0, ke104_0, kc50 (d + 17) a μ I.m cm (by omega), kc75 (d + 17) a ρ I.m rm (by omega), rI_some, rI_some]
  by_cases q : 0 ≤ a ∧ a < (I.m : Int)
  · obtain ⟨k, rfl⟩ : ∃ k : Nat, a = k := ⟨a.toNat, by omega⟩
    have hk : k < I.m := by omega
    have hb16 : 0 ≤ (k : Int) ∧ (k : Int) < 16 := by omega
    have hb17 : 0 ≤ (k : Int) ∧ (k : Int) < 17 := by omega
    obtain ⟨i0, i1, i2, i3⟩ := hD.1.asker k hk
    rw [b01_t q, if_neg n10, if_neg n10, if_pos hb16, if_pos hb16, if_pos hb16, if_pos hb16, if_pos hb16, if_pos hb16, if_pos hb17, if_pos hb17, if_pos hb17, if_pos hb17, if_pos hb17, Int.toNat_natCast, kc167 (d + 18) k 0 μ I s hD.1 hk, kc103 (d + 18) k ρ I s hD.2.1 hD.2.2.1 hk, rI_some, rI_some, i0, i1, i2, i3, hD.2.1.kind k hk, hD.2.1.letter k hk, hD.2.1.base k hk, hD.2.1.more k hk, hD.2.1.comes k hk, hD.1.comes k hk]
    repeat' split
    all_goals first | exact mw2_same _ h0 | (exfalso; omega)
  · rw [b01_f q, if_pos rfl, if_pos rfl]; exact mw2_same _ h0
theorem op_force (d : Nat) (v : Int) {μ ρ : mj_M} (h : Inv μ ρ) : mw2 (kc (d + 20) 7 [v_r 0 0, v_i v] μ) (kc (d + 20) 97 [v_r 33 0, v_i v] ρ) := by
  have h0 := h
  obtain ⟨n, m, t, tc, z, hH, ⟨⟨t1, t2, t3, t4, t5, t6⟩, hT⟩, hP, hM, hS⟩ := h
  have t3' : μ 1 0 9 = (t : Int) := t3
  have t4' : ρ 33 0 16 = (t : Int) := t4
  have t5' : μ 0 0 5 = (tc : Int) := t5
  have t6' : ρ 33 0 15 = (tc : Int) := t6
  rw [ke7_0, ke97_0, t5', t6', kc44, kc72, rI_some, rI_some, wi (by omega) (by omega)]
  by_cases q : 0 ≤ v ∧ v ≤ (tc : Int) - 1
  · obtain ⟨k, rfl⟩ : ∃ k : Nat, v = k := ⟨v.toNat, by omega⟩
    rw [b01_t q, if_neg n10, if_neg n10, t3', t4']
    refine mw2_eq rfl ⟨n, m, k, tc, z, ?_⟩
    rw [mC_up rfl, mR_up rfl]
    exact ⟨hH, ⟨⟨by omega, t2, up_eq _ _ _ _ _, up_eq _ _ _ _ _, t5, t6⟩, hT⟩, vTape_cg hP (fr_up rfl) (fr_up rfl), vImg_cg hM (fr_up rfl) (fr_up rfl), vSheets_cg hS (fr_up rfl) (fr_up rfl)⟩
  · rw [b01_f q, if_pos rfl, if_pos rfl]; exact mw2_same _ h0
