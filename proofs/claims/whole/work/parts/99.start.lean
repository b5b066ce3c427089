/-! the first law is read: what text() of the constructors leaves -/
theorem hab3 (a : Nat) (h : a < 3) : ¬ 2 < (a : Int) ∧ (0 ≤ (a : Int) ∧ (a : Int) < 3) := by omega
theorem part_run (d : Nat) {T : Nat → Int} {z a p q : Nat} {R W : List Int} {μ : mj_M} {Q : Int → mj_M → Prop} (hz : z ≤ 160) (hp : p ≤ z) (hq : q ≤ z) (ha : a < 3) (h0 : lK T z p = (a : Int)) (hr : rOK T z 1 0 (lE T z p) q R) (h59 : lK T z q = 59) (hW : W.length ≤ lE T z p) (h : cQ μ T z p W)
    (k : ∀ μ' : mj_M, cQ μ' T z (lE T z q) (R ++ W) → fr fC7 μ μ' → mwI (kd (d + 50) 198 1 [some (v_r 14 0), some (v_i ((a + 1 : Nat) : Int))] [] μ') Q) : mwI (kd (d + 50) 198 1 [some (v_r 14 0), some (v_i (a : Int))] [] μ) Q := by
  obtain ⟨ha2, hab⟩ := hab3 a ha
  rw [ke198_1, if_neg ha2]
  refine mwI_rI (mwI_mono (skipC (d + 45) (a : Int) hz hp h) (fun x μ1 g => ?_))
  obtain ⟨g1, g2⟩ := g
  rcases g1 with ⟨-, rfl, g3⟩ | ⟨g3, -⟩
  · rw [if_neg n10]
    refine mwI_rI (mwI_mono (hr (d + 50) W μ1 (Nat.le_trans (by decide) (Nat.le_add_left 50 d)) hW g3) (fun x μ2 m => ?_))
    obtain ⟨⟨rfl, m1⟩, m2⟩ := m
    rw [if_neg n10]
    refine mwI_rI (mwI_mono (skipC (d + 45) 59 hz hq m1) (fun x μ3 j => ?_))
    obtain ⟨j1, j2⟩ := j
    rcases j1 with ⟨-, rfl, j3⟩ | ⟨j3, -⟩
    · rw [if_neg n10, if_pos hab, Int.toNat_natCast, wk a (m := 3) ha (by decide)]
      exact k _ (cQ_17 j3) (fr_tr (fP_7 g2) (fr_tr (fP_7 m2) (fr_tr (fP_7 j2) (fr_up (by simp [fC7])))))
    · exact absurd h59 j3
  · exact absurd h0 g3
theorem law_run (d : Nat) {μ : mj_M} (h1 : μ 14 0 1 = 54) (hT : ∀ i, i < 54 → μ 15 0 i = Tl i) : mwI (kc (d + 59) 198 [v_r 14 0] μ) (fun x μ' => x = -1 ∧ fr fC7 μ μ') := by
  obtain ⟨R0, a0, b0⟩ := law0
  obtain ⟨R1, a1, b1⟩ := law1
  obtain ⟨R2, a2, b2⟩ := law2
  rw [ke198_0]
  refine mwI_rV (mwV_mono (kc208 (d + 54) 54 0 (μ 15 0) (by decide) (by decide) _ ?_ (up_eq _ _ _ _ _) (fun i => ?_)) (fun μ1 g => ?_))
  · rw [up_nk (by decide), up_nk (by decide)]; exact h1
  · rw [up_ns (by decide), up_ns (by decide)]
  · have f1 : fr fP μ μ1 := fr_tr (fr_up rfl) (fr_tr (fr_up rfl) (fL_fP g.2))
    have hc : cQ μ1 Tl 54 0 [] := by
      refine ⟨hTk_cg (by decide) hT g.1, ⟨(f1 14 0 1 rfl).trans h1, fun i hi => (f1 15 0 i rfl).trans (hT i hi)⟩, ?_, trivial⟩
      rw [g.2 14 0 4 rfl, up_nk (by decide), up_eq]; rfl
    refine part_run (d + 8) (a := 0) (q := 17) (R := R0) (by decide) (by decide) (by decide) (by decide) tl0.2 (by rw [tl0.1]; exact a0) tl17.2 (Nat.zero_le _) hc (fun μ2 c2 f2 => ?_)
    rw [tl17.1] at c2
    refine part_run (d + 8) (a := 1) (q := 39) (R := R1) (by decide) (by decide) (by decide) (by decide) tl19.2 (by rw [tl19.1]; exact a1) tl39.2 (by rw [List.append_nil, b0, tl19.1]; decide) c2 (fun μ3 c3 f3 => ?_)
    rw [tl39.1] at c3
    refine part_run (d + 8) (a := 2) (q := 52) (R := R2) (by decide) (by decide) (by decide) (by decide) tl41.2 (by rw [tl41.1]; exact a2) tl52.2 (by rw [List.append_nil, List.length_append, b0, b1, tl41.1]; decide) c3 (fun μ4 c4 f4 => ?_)
    rw [tl52.1] at c4
    rw [ke198_1, if_pos (by decide), c4.1.2.2.1, tl54, if_pos rfl]
    exact mwI_ret ⟨rfl, fr_tr (fP_7 f1) (fr_tr f2 (fr_tr f3 f4))⟩
theorem text_first (d : Nat) {μ ρ : mj_M} (c5 : μ 0 0 5 = 0) (r15 : ρ 33 0 15 = 0) (cz : μ 14 0 1 = 54) (rz : ρ 33 0 12 = 54) (hT : ∀ i, i < 54 → μ 15 0 i = Tl i) (hT' : ∀ i, i < 54 → ρ 40 0 i = Tl i) (hW : ∀ i, i < 96 → ρ 49 0 i = Wr i) :
    ∃ (μ1 ρ1 : mj_M), kc (d + 60) 6 [v_r 0 0] μ = some (some (v_i 0), μ1) ∧ kc (d + 60) 94 [v_r 33 0] ρ = some (some (v_i 0), ρ1) ∧ fr (pX 0) μ μ1 ∧ fr (fR2 0) ρ ρ1 ∧ (μ1 14 0 1 = 0 ∧ ρ1 33 0 12 = 0) ∧ (μ1 0 0 5 = 1 ∧ ρ1 33 0 15 = 1) ∧ ∃ g e, txtC μ1 0 g e ∧ txtR ρ1 0 g e ∧ pTxt g e := by
  obtain ⟨x, μ1, ρ1, tc', e1, e2, f1, f2, z1, ⟨t1, t2⟩, h, H⟩ := text_both d (z := 54) (tc := 0) (by decide) (by decide) c5 r15 cz rz (fun i hi => (hT' i hi).trans (hT i hi).symm) hW
  have h5 : μ1 0 0 5 = 1 := by
    obtain ⟨y, μ2, r1, rfl, r2⟩ := law_run d cz hT
    obtain ⟨μ3, k1, -, -, k2⟩ := kc214 (d + 58) 0 (mj_up μ2 14 0 1 0)
    have c52 : μ2 0 0 5 = 0 := (r2 0 0 5 rfl).trans c5
    have c53 : μ3 0 0 5 = 0 := by rw [k2 0 0 5 rfl, up_ns (by decide)]; exact c52
    rw [ke6_0, c5, if_pos (by decide), r1, rI_some, if_pos rfl, c52, if_pos (by decide), show (0 : Int).toNat = 0 from rfl, k1, rV_n, c53] at e1
    have e3 := (Prod.mk.inj (Option.some.inj e1)).2
    rw [← e3, up_eq]; decide
  have ht : tc' = 1 := by
    rw [t1] at h5
    exact Int.ofNat.inj h5
  rcases h with ⟨h, -⟩ | ⟨-, h⟩
  · rw [ht] at h; exact absurd h (by decide)
  · rw [ht] at t1 t2 H
    have hx : x = 0 := h
    rw [hx] at e1 e2
    exact ⟨μ1, ρ1, e1, e2, f1, f2, z1, ⟨t1, t2⟩, H 0 (Nat.le_refl 0) (by decide)⟩
