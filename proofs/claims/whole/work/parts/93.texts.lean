/-! a text, read alike -/
def tQ (ρ : mj_M) (T : Nat → Int) (z tc p : Nat) (W : List Int) : Prop := bR ρ T z tc ∧ ρ 33 0 30 = (p : Int) ∧ ρ 33 0 38 = (W.length : Int) ∧ rep (fun i => ρ 41 0 (200 * tc + i)) W
theorem qQ_t {ρ : mj_M} {T : Nat → Int} {z tc p : Nat} {S W : List Int} {o : Nat} (h : qQ ρ T z tc p S o W) : tQ ρ T z tc p W := ⟨h.1, h.2.1, h.2.2.2.2.2.1, h.2.2.2.2.2.2⟩
theorem nextT (d : Nat) {ρ : mj_M} {T : Nat → Int} {z tc p : Nat} {W : List Int} (hz : z ≤ 160) (hp : p ≤ z) (h : tQ ρ T z tc p W) : mwV (kc (d + 2) 85 [v_r 33 0] ρ) (fun ρ' => nTk ρ' T z p ∧ tQ ρ' T z tc (lE T z p) W ∧ fr (fQ tc) ρ ρ') := by
  obtain ⟨⟨h1, h2, h3, h4⟩, h5, h6, h7⟩ := h
  refine mwV_mono (kc85 d z p (ρ 40 0) hz hp ρ h1 h5 (fun _ => rfl) h3) (fun ρ' g => ?_)
  have n := nTk_cg hp h2 g.1
  exact ⟨n, ⟨bR_fr ⟨h1, h2, h3, h4⟩ (fN_fQ g.2), n.1, (g.2 33 0 38 rfl).trans h6, rep_cg (fun i _ => g.2 41 0 _ rfl) h7⟩, fN_fQ g.2⟩
theorem tQ_42 {ρ : mj_M} {T : Nat → Int} {z tc p : Nat} {W : List Int} {x : Int} {k : Nat} (h : tQ ρ T z tc p W) : tQ (mj_up ρ 42 0 k x) T z tc p W := by
  obtain ⟨⟨h1, h2, h3, h4⟩, h5, s4, s5⟩ := h
  refine ⟨⟨?_, fun i hi => ?_, fun i hi => ?_, ?_⟩, ?_, ?_, ?_⟩
  · rw [up_ns (by decide)]; exact h1
  · rw [up_ns (by decide)]; exact h2 i hi
  · rw [up_ns (by decide)]; exact h3 i hi
  · rw [up_ns (by decide)]; exact h4
  · rw [up_ns (by decide)]; exact h5
  · rw [up_ns (by decide)]; exact s4
  · exact rep_cg (fun i _ => by rw [up_ns (by decide)]) s5
theorem tQ_open {ρ : mj_M} {T : Nat → Int} {z tc p : Nat} {W : List Int} (h : tQ ρ T z tc p W) : qQ (mj_up (mj_up ρ 33 0 36 0) 33 0 37 0) T z tc p [] 0 W := by
  obtain ⟨⟨h1, h2, h3, h4⟩, h5, s4, s5⟩ := h
  refine ⟨⟨?_, fun i hi => ?_, fun i hi => ?_, ?_⟩, ?_, ?_, trivial, up_eq _ _ _ _ _, ?_, ?_⟩
  · rw [up_nk (by decide), up_nk (by decide)]; exact h1
  · rw [up_ns (by decide), up_ns (by decide)]; exact h2 i hi
  · rw [up_ns (by decide), up_ns (by decide)]; exact h3 i hi
  · rw [up_nk (by decide), up_nk (by decide)]; exact h4
  · rw [up_nk (by decide), up_nk (by decide)]; exact h5
  · rw [up_nk (by decide)]; exact up_eq _ _ _ _ _
  · rw [up_nk (by decide), up_nk (by decide)]; exact s4
  · exact rep_cg (fun i _ => by rw [up_ns (by decide), up_ns (by decide)]) s5
theorem cQ_17 {μ : mj_M} {T : Nat → Int} {z p : Nat} {W : List Int} {k : Nat} {x : Int} (h : cQ μ T z p W) : cQ (mj_up μ 17 0 k x) T z p W := by
  obtain ⟨⟨h1, h2, h3, h4⟩, ⟨h5, h6⟩, h7, h8⟩ := h
  refine ⟨⟨?_, ?_, ?_, fun w => ?_⟩, ⟨?_, fun i hi => ?_⟩, ?_, ?_⟩
  · rw [up_ns (by decide)]; exact h1
  · rw [up_ns (by decide)]; exact h2
  · rw [up_ns (by decide)]; exact h3
  · rw [up_ns (by decide)]; exact h4 w
  · rw [up_ns (by decide)]; exact h5
  · rw [up_ns (by decide)]; exact h6 i hi
  · rw [up_ns (by decide)]; exact h7
  · exact rep_cg (fun i _ => by rw [up_ns (by decide)]) h8
/-- the reference: a part does not start, or is not read through -/
theorem part_no (d : Nat) {T : Nat → Int} {z tc a f : Nat} {W : List Int} (h6 : tc < 6) (ha : a < 3) {ρ : mj_M} {o1 : Option mj_V} {x : Nat} (h : tQ ρ T z tc x W) (hf : ρ 33 0 31 = (f : Int)) : mwI (kd d 94 4 [some (v_r 33 0), o1, some (v_i (a : Int))] [v_i 0] ρ) (fun x ρ' => oR tc x ρ' (.inl f) ∧ fr (fR2 tc) ρ ρ') := by
  have ht := h.1.2.2.2
  obtain ⟨w1, w2⟩ := w424 tc a h6 (by omega)
  rw [ke94_4, ht, w1, if_pos w2, if_pos rfl, Int.toNat_natCast]
  refine mwI_mono (stop_R d h6 (f := f) ?_ ?_) (fun x ρ' g => ⟨g.1, fr_tr (fr_up ?_) g.2⟩)
  · rw [up_ns (by decide)]; exact ht
  · rw [up_ns (by decide)]; exact hf
  · simp [fR2]; omega
theorem part_go (d : Nat) {T : Nat → Int} {z tc a x : Nat} {W : List Int} (h6 : tc < 6) (ha : a < 3) {ρ : mj_M} {o1 : Option mj_V} (h : tQ ρ T z tc x W) {Q Q2 : Int → mj_M → Prop}
    (h1 : ∀ ρ1 : mj_M, qQ ρ1 T z tc x [] 0 W → fr (fR2 tc) ρ ρ1 → ρ1 42 0 (4 * tc + a) = (W.length : Int) → (∀ i, i < a → ρ1 42 0 (4 * tc + i) = ρ 42 0 (4 * tc + i)) → mwI (kd (d + 9) 93 1 [some (v_r 33 0), some (v_i 1), some (v_i 1), none] [] ρ1) Q2)
    (h2 : ∀ y ρ2, Q2 y ρ2 → mwI (if y = 0 then (kd (d + 10) 94 2 [some (v_r 33 0), some (v_i 0), some (v_i ((a + 1 : Nat) : Int))] [] ρ2) else (kd (d + 10) 94 2 [some (v_r 33 0), some (v_i 1), some (v_i ((a + 1 : Nat) : Int))] [] ρ2)) Q) :
    mwI (kd (d + 10) 94 4 [some (v_r 33 0), o1, some (v_i (a : Int))] [v_i 1] ρ) Q := by
  have ht := h.1.2.2.2
  obtain ⟨w1, w2⟩ := w424 tc a h6 (by omega)
  rw [ke94_4, ht, w1, if_pos w2, if_neg n10, Int.toNat_natCast, h.2.2.1, wk a (m := 3) ha (by decide), ke93_0]
  refine mwI_rI (mwI_mono (h1 _ (tQ_open (tQ_42 h)) (fr_tr (fr_up ?_) (fr_tr (fr_up ?_) (fr_up ?_))) ?_ (fun i hi => ?_)) (fun y ρ2 g => h2 y ρ2 g))
  · simp [fR2]; omega
  · simp [fR2, fQ]
  · simp [fR2, fQ]
  · rw [up_ns (by decide), up_ns (by decide)]; exact up_eq _ _ _ _ _
  · rw [up_ns (by decide), up_ns (by decide), up_nk (by omega)]
theorem textSim {T : Nat → Int} {z tc : Nat} (hz : z ≤ 160) (h6 : tc < 6) : ∀ (j a p : Nat) (W : List Int) (E : Nat → Nat), a + j = 3 → p ≤ z → W.length ≤ p → tOK W E a → ∃ out : Out, oOK z out ∧
    (∀ (d : Nat) (μ : mj_M), 50 ≤ d → cQ μ T z p W → (∀ i, i < a → μ 17 0 i = (E (i + 1) : Int)) → mwI (kd d 198 1 [some (v_r 14 0), some (v_i (a : Int))] [] μ) (fun x μ' => oC x μ' out ∧ fr fC7 μ μ')) ∧
    (∀ (d : Nat) (ρ : mj_M), tQ ρ T z tc p W → (∀ i, i < a → ρ 42 0 (4 * tc + i) = (E i : Int)) → mwI (kd (d + 10) 94 2 [some (v_r 33 0), some (v_i 1), some (v_i (a : Int))] [] ρ) (fun x ρ' => oR tc x ρ' out ∧ fr (fR2 tc) ρ ρ')) := by
  intro j
  induction j with
  | zero =>
    intro a p W E ha hp hWp hE
    obtain rfl : a = 3 := by omega
    obtain ⟨-, -, -, -, -, -, -, i0⟩ := (rt_i (lK_tk T z p)).2
    have hW3 : E 3 = W.length := hE.2.1
    obtain ⟨w1, w2⟩ := w424 tc 3 h6 (by decide)
    have w1' : mj_w (mj_w (4 * (tc : Int)) + 3) = ((4 * tc + 3 : Nat) : Int) := w1
    by_cases q : lK T z p = 14
    · refine ⟨.inr (W, E), ⟨hE, Nat.le_trans hWp hp⟩, fun d μ hd hc h17 => ?_, fun d ρ hq h42 => ?_⟩
      · rw [ke198_1, if_pos (by decide), hc.1.2.2.1, if_pos q]
        exact mwI_ret ⟨⟨rfl, hc.2.2.2, h17⟩, fr_rf⟩
      · rw [ke94_2, if_neg (by decide), ke94_7, if_neg n10]
        refine mwI_rV (mwV_mono (nextT (d + 8) hz hp hq) (fun ρ1 g => ?_))
        obtain ⟨g1, g2, g3⟩ := g
        have ht := g2.1.2.2.2
        have hw : mj_w ((tc : Int) + 1) = ((tc + 1 : Nat) : Int) := wk tc h6 (by decide)
        have hw2 : mj_w (((tc + 1 : Nat) : Int) - 1) = (tc : Int) := by rw [wi (by omega) (by omega)]; omega
        rw [g1.2.2.1, if_pos (i0.2 q), ke94_10, ht, w1', if_pos w2, if_neg n10, Int.toNat_natCast, hw, hw2]
        refine mwI_ret ⟨⟨?_, rfl, up_eq _ _ _ _ _, ?_, fun i hi => ?_⟩, fr_tr (fQ_2 g3) (fr_tr (fr_up ?_) (fr_tr (fr_up ?_) (fr_up ?_)))⟩
        · rw [up_nk (by decide), up_eq]
        · exact rep_cg (fun i _ => by rw [up_ns (by decide), up_ns (by decide), up_ns (by decide)]) g2.2.2.2
        · rw [up_ns (by decide), up_ns (by decide)]
          by_cases e : i = 3
          · rw [e, up_eq, g2.2.2.1, hW3]
          · rw [up_nk (by omega), g3 42 0 _ (by simp [fQ])]; exact h42 i (by omega)
        · simp [fR2]
        · simp [fR2]
        · simp [fR2]
    · refine ⟨.inl (lS T z p), trivial, fun d μ hd hc h17 => ?_, fun d ρ hq h42 => ?_⟩
      · rw [ke198_1, if_pos (by decide), hc.1.2.2.1, if_neg q]
        exact mwI_ret ⟨hc.1.2.1, fr_rf⟩
      · rw [ke94_2, if_neg (by decide), ke94_7, if_neg n10]
        refine mwI_rV (mwV_mono (nextT (d + 8) hz hp hq) (fun ρ1 g => ?_))
        obtain ⟨g1, g2, g3⟩ := g
        rw [g1.2.2.1, if_neg (fun w => q (i0.1 w))]
        exact mwI_mono (fault_R (d + 10) h6 g2.1.2.2.2 g1.2.1) (fun x ρ' k => ⟨k.1, fr_tr (fQ_2 g3) k.2⟩)
  | succ j ih =>
    intro a p W E ha hp hWp hE
    have ha3 : a < 3 := by omega
    have ha3i : (a : Int) < 3 := by omega
    have ha2 : ¬ 2 < (a : Int) := by omega
    have hab : 0 ≤ (a : Int) ∧ (a : Int) < 3 := by omega
    obtain ⟨-, -, -, -, -, -, i3, -⟩ := (rt_i (lK_tk T z p)).2
    by_cases q : lK T z p = (a : Int)
    · have hE1 := lE_b (T := T) hp
      have hne : lS T z p ≠ z := fun v => by rw [lK_end v] at q; omega
      have hlt : p < lE T z p := Nat.lt_of_le_of_lt (lS_b (T := T) hp).1 (hE1.2.2 hne)
      obtain ⟨res, c1, v1, r1⟩ := (all_sim (T := T) hz h6 (z - lE T z p + 1) (lE T z p) (Nat.lt_succ_self _) hE1.2.1).2.2.2.2.2.2 0 (by decide)
      have hWl : W.length ≤ lE T z p := by omega
      have cls : ∀ out : Out, (∀ (d : Nat) (μ1 : mj_M) (x : Int), 50 ≤ d → (∀ i, i < a → μ1 17 0 i = (E (i + 1) : Int)) → rC T z x μ1 res W → mwI (if x = 0 then (some (some (v_i (μ1 14 0 6)), μ1)) else (mj_rI (kc d 199 [v_r 14 0, v_i 59] μ1) fun x5 m6 => if x5 = 0 then (some (some (v_i (m6 14 0 6)), m6)) else (if 0 ≤ (a : Int) ∧ (a : Int) < 3 then (kd d 198 1 [some (v_r 14 0), some (v_i (mj_w ((a : Int) + 1)))] [] (mj_up m6 17 0 (a : Int).toNat (m6 14 0 4))) else (none)))) (fun x μ' => oC x μ' out ∧ fr fC7 μ1 μ')) → ∀ (d : Nat) (μ : mj_M), 50 ≤ d → cQ μ T z p W → (∀ i, i < a → μ 17 0 i = (E (i + 1) : Int)) → mwI (kd d 198 1 [some (v_r 14 0), some (v_i (a : Int))] [] μ) (fun x μ' => oC x μ' out ∧ fr fC7 μ μ') := by
        intro out hk d μ hd hc h17
        obtain ⟨d', rfl⟩ : ∃ d', d = d' + 5 := ⟨d - 5, by omega⟩
        rw [ke198_1, if_neg ha2]
        refine mwI_rI (mwI_mono (skipC d' (a : Int) hz hp hc) (fun x μ1 g => ?_))
        obtain ⟨g1, g2⟩ := g
        rcases g1 with ⟨-, rfl, g3⟩ | ⟨g3, -⟩
        · rw [if_neg n10]
          refine mwI_rI (mwI_mono (c1 (d' + 5) W μ1 (show 47 ≤ d' + 5 by omega) hWl g3) (fun x μ2 k => ?_))
          refine mwI_mono (hk (d' + 5) μ2 x hd (fun i hi => ?_) k.1) (fun x' μ3 m => ⟨m.1, fr_tr (fP_7 g2) (fr_tr (fP_7 k.2) m.2)⟩)
          rw [k.2 17 0 i rfl, g2 17 0 i rfl]; exact h17 i hi
        · exact absurd q g3
      have ref : ∀ out : Out, (∀ (d : Nat) (ρ ρ1 : mj_M), qQ ρ1 T z tc (lE T z p) [] 0 W → ρ1 42 0 (4 * tc + a) = (W.length : Int) → (∀ i, i < a → ρ1 42 0 (4 * tc + i) = (E i : Int)) → ∃ Q2 : Int → mj_M → Prop, goX T z tc 1 0 [] W ρ1 d Q2 res ∧ ∀ y ρ2, Q2 y ρ2 → mwI (if y = 0 then (kd (d + 10) 94 2 [some (v_r 33 0), some (v_i 0), some (v_i ((a + 1 : Nat) : Int))] [] ρ2) else (kd (d + 10) 94 2 [some (v_r 33 0), some (v_i 1), some (v_i ((a + 1 : Nat) : Int))] [] ρ2)) (fun x ρ' => oR tc x ρ' out ∧ fr (fR2 tc) ρ1 ρ')) → ∀ (d : Nat) (ρ : mj_M), tQ ρ T z tc p W → (∀ i, i < a → ρ 42 0 (4 * tc + i) = (E i : Int)) → mwI (kd (d + 10) 94 2 [some (v_r 33 0), some (v_i 1), some (v_i (a : Int))] [] ρ) (fun x ρ' => oR tc x ρ' out ∧ fr (fR2 tc) ρ ρ') := by
        intro out hk d ρ hq h42
        rw [ke94_2, if_pos ha3i, if_neg n10]
        refine mwI_rV (mwV_mono (nextT (d + 8) hz hp hq) (fun ρ1 g => ?_))
        obtain ⟨g1, g2, g3⟩ := g
        have h33 : ρ1 33 0 33 = (a : Int) := by rw [g1.2.2.2.1 (by rw [q]; exact ha3i)]; exact q
        rw [g1.2.2.1, if_pos (i3.2 (by rw [q]; exact hab)), h33, if_pos rfl]
        have go : ∀ ρ2 : mj_M, qQ ρ2 T z tc (lE T z p) [] 0 W → fr (fR2 tc) ρ1 ρ2 → ρ2 42 0 (4 * tc + a) = (W.length : Int) → (∀ i, i < a → ρ2 42 0 (4 * tc + i) = ρ1 42 0 (4 * tc + i)) → mwI (kd (d + 9) 93 1 [some (v_r 33 0), some (v_i 1), some (v_i 1), none] [] ρ2) (fun y ρ3 => mwI (if y = 0 then (kd (d + 10) 94 2 [some (v_r 33 0), some (v_i 0), some (v_i ((a + 1 : Nat) : Int))] [] ρ3) else (kd (d + 10) 94 2 [some (v_r 33 0), some (v_i 1), some (v_i ((a + 1 : Nat) : Int))] [] ρ3)) (fun x ρ' => oR tc x ρ' out ∧ fr (fR2 tc) ρ ρ')) := by
          intro ρ2 q2 f2 e2 e3
          obtain ⟨Q2, k1, k2⟩ := hk d ρ2 ρ2 q2 e2 (fun i hi => by rw [e3 i hi, g3 42 0 _ (by simp [fQ])]; exact h42 i hi)
          refine mwI_mono (r1 d [] W ρ2 1 none Q2 (by rw [List.length_nil]; omega) rfl trivial q2 k1) (fun y ρ3 m => ?_)
          exact mwI_mono (k2 y ρ3 m) (fun x ρ' n => ⟨n.1, fr_tr (fQ_2 g3) (fr_tr f2 n.2)⟩)
        exact part_go d h6 ha3 g2 go (fun y ρ2 h => h)
      cases hres : res with
      | inl f =>
        rw [hres] at cls ref
        refine ⟨.inl f, trivial, cls _ (fun d μ1 x hd h17 h => ?_), ref _ (fun d ρ ρ1 q1 e1 e2 => ?_)⟩
        · rw [if_pos h.1]; exact mwI_ret ⟨h.2.1, fr_rf⟩
        · refine ⟨fun y ρ2 => y = 0 ∧ ρ2 33 0 31 = (f : Int) ∧ fr (fQ tc) ρ1 ρ2, fun ρ' h31 f' => ⟨rfl, h31, f'⟩, fun y ρ2 m => ?_⟩
          obtain ⟨rfl, m2, m3⟩ := m
          rw [if_pos rfl]
          exact mwI_mono (stop_R (d + 10) h6 ((fQ_at m3 rfl).trans q1.1.2.2.2) m2) (fun x ρ' n => ⟨n.1, fr_tr (fQ_2 m3) n.2⟩)
      | inr v =>
        obtain ⟨q1, R⟩ := v
        rw [hres] at cls ref v1
        obtain ⟨w1, w2, w3, w4, w5⟩ := v1
        have hEq := lE_b (T := T) w3
        by_cases h59 : lK T z q1 = 59
        · have hne2 : lS T z q1 ≠ z := fun v => by rw [lK_end v] at h59; exact absurd h59 (by decide)
          have hlt2 : q1 < lE T z q1 := Nat.lt_of_le_of_lt (lS_b (T := T) w3).1 (hEq.2.2 hne2)
          have hRW : (R ++ W).length ≤ lE T z q1 := by rw [List.length_append]; omega
          have hpR : pOK R.reverse 0 := by
            have := w4 0 [] (by decide) (show (1 : Nat) = 1 from rfl)
            rw [List.append_nil] at this; exact this
          obtain ⟨out, o1, o2, o3⟩ := ih (a + 1) (lE T z q1) (R ++ W) _ (by omega) hEq.2.1 hRW (tOK_s hE hpR)
          refine ⟨out, o1, cls _ (fun d μ1 x hd h17 h => ?_), ref _ (fun d ρ ρ1 q2 e1 e2 => ?_)⟩
          · obtain ⟨d', rfl⟩ : ∃ d', d = d' + 5 := ⟨d - 5, by omega⟩
            rw [h.1, if_neg n10]
            refine mwI_rI (mwI_mono (skipC d' 59 hz w3 h.2) (fun y μ2 g => ?_))
            obtain ⟨g1, g2⟩ := g
            rcases g1 with ⟨-, rfl, g3⟩ | ⟨g3, -⟩
            · rw [if_neg n10, if_pos hab, Int.toNat_natCast, wk a (m := 3) ha3 (by decide), g3.2.2.1]
              refine mwI_mono (o2 (d' + 5) _ hd (cQ_17 g3) (fun i hi => ?_)) (fun x' μ3 m => ⟨m.1, fr_tr (fP_7 g2) (fr_tr (fr_up (by simp [fC7])) m.2)⟩)
              by_cases e : i = a
              · rw [e, up_eq]
                show _ = ((if a + 1 = a + 1 then (R ++ W).length else E (a + 1) : Nat) : Int)
                rw [if_pos rfl]
              · rw [up_nk e, g2 17 0 i rfl, h17 i (by omega)]
                show _ = ((if i + 1 = a + 1 then (R ++ W).length else E (i + 1) : Nat) : Int)
                rw [if_neg (by omega)]
            · exact absurd h59 g3
          · refine ⟨fun y ρ2 => y = 1 ∧ tQ ρ2 T z tc (lE T z q1) (R ++ W) ∧ fr (fQ tc) ρ1 ρ2, ?_, fun y ρ2 m => ?_⟩
            · intro K R0 ρ' mn' o3' hRK hK hp4 hoK hq2 hl2 f2
              rw [Nat.zero_add] at hoK hq2
              rw [List.append_nil] at hq2 hl2
              refine end_R d hz h6 w3 h59 hK hl2 hoK hq2 (fun ρ3 q3 f3 => ⟨rfl, ?_, fr_tr f2 f3⟩)
              have := qQ_t q3
              rw [← List.append_assoc, ← hRK] at this
              exact this
            · obtain ⟨rfl, m2, m3⟩ := m
              rw [if_neg n10]
              refine mwI_mono (o3 d ρ2 m2 (fun i hi => ?_)) (fun x ρ' n => ⟨n.1, fr_tr (fQ_2 m3) n.2⟩)
              show _ = ((if i = a + 1 then (R ++ W).length else E i : Nat) : Int)
              rw [if_neg (by omega), m3 42 0 _ (by simp [fQ])]
              by_cases e : i = a
              · rw [e, e1, hE.2.1]
              · exact e2 i (by omega)
        · refine ⟨.inl (lS T z q1), trivial, cls _ (fun d μ1 x hd h17 h => ?_), ref _ (fun d ρ ρ1 q2 e1 e2 => ?_)⟩
          · obtain ⟨d', rfl⟩ : ∃ d', d = d' + 5 := ⟨d - 5, by omega⟩
            rw [h.1, if_neg n10]
            refine mwI_rI (mwI_mono (skipC d' 59 hz w3 h.2) (fun y μ2 g => ?_))
            obtain ⟨g1, g2⟩ := g
            rcases g1 with ⟨g3, -⟩ | ⟨-, rfl, g3⟩
            · exact absurd g3 h59
            · rw [if_pos rfl]; exact mwI_ret ⟨g3.1.2.1, fP_7 g2⟩
          · refine ⟨fun y ρ2 => y = 0 ∧ ρ2 33 0 31 = (lS T z q1 : Int) ∧ fr (fQ tc) ρ1 ρ2, ?_, fun y ρ2 m => ?_⟩
            · intro K R0 ρ' mn' o3' hRK hK hp4 hoK hq2 hl2 f2
              rw [Nat.zero_add] at hoK hq2
              rw [List.append_nil] at hq2 hl2
              exact noend_R d hz h6 w3 h59 w5 hK hp4 hl2 hoK hq2 (fun ρ3 h31 f3 => ⟨rfl, h31, fr_tr f2 f3⟩)
            · obtain ⟨rfl, m2, m3⟩ := m
              rw [if_pos rfl]
              exact mwI_mono (stop_R (d + 10) h6 ((fQ_at m3 rfl).trans q2.1.2.2.2) m2) (fun x ρ' n => ⟨n.1, fr_tr (fQ_2 m3) n.2⟩)
    · refine ⟨.inl (lS T z p), trivial, fun d μ hd hc h17 => ?_, fun d ρ hq h42 => ?_⟩
      · obtain ⟨d', rfl⟩ : ∃ d', d = d' + 5 := ⟨d - 5, by omega⟩
        rw [ke198_1, if_neg ha2]
        refine mwI_rI (mwI_mono (skipC d' (a : Int) hz hp hc) (fun x μ1 g => ?_))
        obtain ⟨g1, g2⟩ := g
        rcases g1 with ⟨g3, -⟩ | ⟨-, rfl, g3⟩
        · exact absurd g3 q
        · rw [if_pos rfl]; exact mwI_ret ⟨g3.1.2.1, fP_7 g2⟩
      · rw [ke94_2, if_pos ha3i, if_neg n10]
        refine mwI_rV (mwV_mono (nextT (d + 8) hz hp hq) (fun ρ1 g => ?_))
        obtain ⟨g1, g2, g3⟩ := g
        have no : ∀ o1, mwI (kd (d + 10) 94 4 [some (v_r 33 0), o1, some (v_i (a : Int))] [v_i 0] ρ1) (fun x ρ' => oR tc x ρ' (.inl (lS T z p)) ∧ fr (fR2 tc) ρ ρ') := fun o1 =>
          mwI_mono (part_no (d + 10) h6 ha3 g2 g1.2.1) (fun x ρ' n => ⟨n.1, fr_tr (fQ_2 g3) n.2⟩)
        rw [g1.2.2.1]
        by_cases q3 : rt (lK T z p) = 3
        · have hk := i3.1 q3
          rw [if_pos q3, g1.2.2.2.1 hk.2, if_neg q]
          exact no _
        · rw [if_neg q3]; exact no _
