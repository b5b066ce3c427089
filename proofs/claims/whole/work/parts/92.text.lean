/-! a text: its three parts, and what was told -/
theorem rep_unc : ∀ {W : List Int} {f g : Nat → Int}, rep f (W.map unc) → rep g W → ∀ i, i < W.length → f i = unc (g i)
  | [], _, _, _, _, i, hi => absurd hi (Nat.not_lt_zero i)
  | x :: t, f, g, h1, h2, i, hi => by
    by_cases e : i = t.length
    · have a := h1.1
      rw [List.length_map] at a
      rw [e, a, h2.1]
    · have : i < t.length := by
        rw [List.length_cons] at hi; omega
      exact rep_unc h1.2 h2.2 i this
theorem rep_app {g : Nat → Int} : ∀ {A B : List Int}, rep g (A ++ B) → rep g B
  | [], _, h => h
  | _ :: t, B, h => rep_app (A := t) h.2
theorem seg_s (g : Nat → Int) : ∀ n a, seg g a (n + 1) = seg g a n ++ [g (a + n)]
  | 0, a => rfl
  | n + 1, a => by
    show g a :: seg g (a + 1) (n + 1) = (g a :: seg g (a + 1) n) ++ [g (a + (n + 1))]
    rw [seg_s g n (a + 1), List.cons_append, show a + 1 + n = a + (n + 1) by omega]
theorem rep_seg {g : Nat → Int} : ∀ {R B : List Int}, rep g (R ++ B) → seg g B.length R.length = R.reverse
  | [], _, _ => rfl
  | x :: t, B, h => by
    have h1 : g (t ++ B).length = x := h.1
    rw [List.length_append] at h1
    rw [List.length_cons, seg_s, rep_seg (R := t) h.2, List.reverse_cons, show B.length + t.length = t.length + B.length by omega, h1]
/-- parts told so far, of W (the last one first) -/
def tOK (W : List Int) (E : Nat → Nat) (a : Nat) : Prop := E 0 = 0 ∧ E a = W.length ∧ ∀ p, p < a → E p ≤ E (p + 1) ∧ ∃ A R B, W = A ++ (R ++ B) ∧ B.length = E p ∧ R.length + B.length = E (p + 1) ∧ pOK R.reverse 0
theorem tOK_s {W R : List Int} {E : Nat → Nat} {a : Nat} (h : tOK W E a) (hR : pOK R.reverse 0) : tOK (R ++ W) (fun i => if i = a + 1 then (R ++ W).length else E i) (a + 1) := by
  obtain ⟨h1, h2, h3⟩ := h
  refine ⟨?_, ?_, fun p hp => ?_⟩
  · show (if (0 : Nat) = a + 1 then _ else E 0) = 0
    rw [if_neg (by omega)]; exact h1
  · show (if a + 1 = a + 1 then (R ++ W).length else E (a + 1)) = _
    rw [if_pos rfl]
  · show (if p = a + 1 then (R ++ W).length else E p) ≤ (if p + 1 = a + 1 then (R ++ W).length else E (p + 1)) ∧ ∃ A R' B, R ++ W = A ++ (R' ++ B) ∧ B.length = (if p = a + 1 then (R ++ W).length else E p) ∧ R'.length + B.length = (if p + 1 = a + 1 then (R ++ W).length else E (p + 1)) ∧ pOK R'.reverse 0
    rw [if_neg (show ¬ p = a + 1 by omega)]
    by_cases q : p = a
    · rw [if_pos (show p + 1 = a + 1 by omega), q, h2, List.length_append]
      exact ⟨Nat.le_add_left _ _, [], R, W, rfl, rfl, rfl, hR⟩
    · rw [if_neg (show ¬ p + 1 = a + 1 by omega)]
      obtain ⟨k1, A, R', B, k2, k3, k4, k5⟩ := h3 p (by omega)
      exact ⟨k1, R ++ A, R', B, by rw [k2, List.append_assoc], k3, k4, k5⟩
theorem tOK_le {W : List Int} {E : Nat → Nat} (h : tOK W E 3) : E 0 ≤ E 1 ∧ E 1 ≤ E 2 ∧ E 2 ≤ E 3 := ⟨(h.2.2 0 (by decide)).1, (h.2.2 1 (by decide)).1, (h.2.2 2 (by decide)).1⟩
theorem tOK_p {W : List Int} {E : Nat → Nat} {g : Nat → Int} (h : tOK W E 3) (hW : W.length ≤ 160) (hg : rep g W) : pTxt g E := by
  obtain ⟨l1, l2, l3⟩ := tOK_le h
  refine ⟨h.1, l1, l2, l3, by rw [h.2.1]; exact hW, fun p hp => ?_⟩
  obtain ⟨-, A, R, B, e1, e2, e3, e4⟩ := h.2.2 p hp
  rw [e1] at hg
  rw [← e2, ← e3, show R.length + B.length - B.length = R.length by omega, rep_seg (rep_app hg)]
  exact e4
/-- the reference behind an E that ends a part -/
theorem end_R (d : Nat) {T : Nat → Int} {z tc q : Nat} {K W : List Int} {ρ : mj_M} {mn : Int} {o3 : Option mj_V} {Q : Int → mj_M → Prop} (hz : z ≤ 160) (h6 : tc < 6) (hq : q ≤ z) (hc : lK T z q = 59) (hK : ∀ c, c ∈ K → (1 : Int) ≤ rkS c) (hl : K.length + W.length ≤ q) (ho : cntO K ≤ 5) (h : qQ ρ T z tc q K (cntO K) W)
    (k : ∀ ρ' : mj_M, qQ ρ' T z tc (lE T z q) [] 0 (K.reverse ++ W) → fr (fQ tc) ρ ρ' → Q 1 ρ') :
    mwI (kd (d + 9) 93 1 [some (v_r 33 0), some (v_i 0), some (v_i mn), o3] [] ρ) Q := by
  rw [ke93_1]
  refine mwI_rV (mwV_mono (nextR (d + 7) hz hq h) (fun ρ1 g => ?_))
  obtain ⟨g1, g2⟩ := g
  have n3 : ρ1 33 0 32 = 59 := by rw [g1.2.1.2.2.1, hc]; decide
  have hl160 : (K ++ []).length + W.length ≤ 160 := by rw [List.append_nil]; omega
  have hs : sQ tc ρ1 (K ++ []) (0 + cntO K) W := by rw [List.append_nil, Nat.zero_add]; exact g1.2.2
  rw [if_pos rfl, n3, if_pos rfl, e88]
  refine mwI_rV (mwV_mono (kd88 (d + 7) tc h6 1 K [] W 0 ρ1 _ hK trivial hl160 (by omega) g1.1.2.2.2 hs) (fun ρ2 j => ?_))
  have h36 : ρ2 33 0 36 = 0 := j.1.1
  rw [h36, if_pos rfl]
  exact mwI_ret (k ρ2 (aQ_q (aQ_u g1 j.2 j.1)) (fr_tr g2 (fU_fQ j.2)))
theorem noend_R (d : Nat) {T : Nat → Int} {z tc q : Nat} {K W : List Int} {ρ : mj_M} {mn : Int} {o3 : Option mj_V} {Q : Int → mj_M → Prop} (hz : z ≤ 160) (h6 : tc < 6) (hq : q ≤ z) (hc : lK T z q ≠ 59) (hst : stopT T z 1 q) (hK : ∀ c, c ∈ K → (1 : Int) ≤ rkS c) (hp : p4 T z 1 q K) (hl : K.length + W.length ≤ q) (ho : cntO K ≤ 5) (h : qQ ρ T z tc q K (cntO K) W) (k : ∀ ρ' : mj_M, ρ' 33 0 31 = (lS T z q : Int) → fr (fQ tc) ρ ρ' → Q 0 ρ') :
    mwI (kd (d + 9) 93 1 [some (v_r 33 0), some (v_i 0), some (v_i mn), o3] [] ρ) Q := by
  by_cases h41 : lK T z q = 41
  · rw [ke93_1]
    refine mwI_rV (mwV_mono (nextR (d + 7) hz hq h) (fun ρ1 g => ?_))
    obtain ⟨g1, g2⟩ := g
    have n3 : ρ1 33 0 32 = 41 := by rw [g1.2.1.2.2.1, h41]; decide
    have hl160 : (K ++ []).length + W.length ≤ 160 := by rw [List.append_nil]; omega
    have hs : sQ tc ρ1 (K ++ []) (0 + cntO K) W := by rw [List.append_nil, Nat.zero_add]; exact g1.2.2
    rw [if_pos rfl, n3, if_neg (by decide), if_pos rfl, e88]
    refine mwI_rV (mwV_mono (kd88 (d + 7) tc h6 1 K [] W 0 ρ1 _ hK trivial hl160 (by omega) g1.1.2.2.2 hs) (fun ρ2 j => ?_))
    have h36 : ρ2 33 0 36 = 0 := j.1.1
    rw [h36, if_pos rfl]
    exact mwI_ret (k ρ2 ((fU_at j.2 rfl).trans g1.2.1.2.1) (fr_tr g2 (fU_fQ j.2)))
  · by_cases hcm : isCm T z q
    · obtain ⟨K1, c, K2, e1, e2, e3⟩ := hp (by decide) hcm
      have eo : cntO K = cntO (c :: K2) + cntO K1 := by rw [e1, cntO_app2]; omega
      rw [eo] at ho h
      rw [e1] at hl h
      exact cmp_R d hz h6 hq hl ho h hcm e3 e2 k
    · refine bad_R d hz hq h ?_ hc h41 k
      unfold isCm at hcm
      obtain ⟨s1, s2, s3, s4⟩ := hst
      have s1 := s1 (by decide)
      have s2 := s2 (by decide)
      have s3 := s3 (by decide)
      have s4 := s4 (by decide)
      unfold sgn
      rw [if_neg s4, if_neg s3, if_neg (fun w => hcm (Or.inl w)), if_neg (fun w => hcm (Or.inr w)), if_neg s2.1, if_neg s2.2, if_neg s1]
/-- what comes of a text: a fault, or what was told and where the parts end -/
def Out : Type := Nat ⊕ (List Int × (Nat → Nat))
def oOK (z : Nat) (out : Out) : Prop := match out with
  | .inl _ => True
  | .inr (W, E) => tOK W E 3 ∧ W.length ≤ z
def oC (x : Int) (μ : mj_M) (out : Out) : Prop := match out with
  | .inl f => x = (f : Int)
  | .inr (W, E) => x = -1 ∧ rep (μ 16 0) (W.map unc) ∧ ∀ i, i < 3 → μ 17 0 i = (E (i + 1) : Int)
def oR (tc : Nat) (x : Int) (ρ : mj_M) (out : Out) : Prop := ρ 33 0 12 = 0 ∧ (match out with
  | .inl f => x = mj_w (-100 - (f : Int)) ∧ ρ 33 0 15 = (tc : Int)
  | .inr (W, E) => x = (tc : Int) ∧ ρ 33 0 15 = ((tc + 1 : Nat) : Int) ∧ rep (fun i => ρ 41 0 (200 * tc + i)) W ∧ ∀ i, i < 4 → ρ 42 0 (4 * tc + i) = (E i : Int))
def fC7 : Nat → Nat → Nat → Bool := fun s i k => fP s i k || s == 17
def fR2 (tc : Nat) : Nat → Nat → Nat → Bool := fun s i k => fQ tc s i k || ((s == 42 && (decide (4 * tc ≤ k) && decide (k < 4 * tc + 4))) || (s == 33 && (k == 12 || k == 15)))
theorem fP_7 {μ μ' : mj_M} (h : fr fP μ μ') : fr fC7 μ μ' := fr_no h (fun s i k q => by unfold fC7; rw [q]; rfl)
theorem fQ_2 {tc : Nat} {ρ ρ' : mj_M} (h : fr (fQ tc) ρ ρ') : fr (fR2 tc) ρ ρ' := fr_no h (fun s i k q => by unfold fR2; rw [q]; rfl)
theorem w424 (tc a : Nat) (h : tc < 6) (ha : a < 4) : mj_w (mj_w (4 * (tc : Int)) + (a : Int)) = ((4 * tc + a : Nat) : Int) ∧ (0 ≤ ((4 * tc + a : Nat) : Int) ∧ ((4 * tc + a : Nat) : Int) < 24) := by
  refine ⟨?_, by omega⟩
  rw [wi (z := 4 * (tc : Int)) (by omega) (by omega), wi (by omega) (by omega)]; omega
theorem qQ_42 {ρ : mj_M} {T : Nat → Int} {z tc p : Nat} {S W : List Int} {o : Nat} {x : Int} {k : Nat} (h : qQ ρ T z tc p S o W) : qQ (mj_up ρ 42 0 k x) T z tc p S o W := by
  obtain ⟨⟨h1, h2, h3, h4⟩, h5, ⟨s1, s2, s3, s4, s5⟩⟩ := h
  refine ⟨⟨?_, fun i hi => ?_, fun i hi => ?_, ?_⟩, ?_, ?_, ?_, ?_, ?_, ?_⟩
  · rw [up_ns (by decide)]; exact h1
  · rw [up_ns (by decide)]; exact h2 i hi
  · rw [up_ns (by decide)]; exact h3 i hi
  · rw [up_ns (by decide)]; exact h4
  · rw [up_ns (by decide)]; exact h5
  · rw [up_ns (by decide)]; exact s1
  · exact rep_cg (fun i _ => by rw [up_ns (by decide)]) s2
  · rw [up_ns (by decide)]; exact s3
  · rw [up_ns (by decide)]; exact s4
  · exact rep_cg (fun i _ => by rw [up_ns (by decide)]) s5
/-- the reference, at a fault -/
theorem fault_R (d : Nat) {tc f : Nat} (h6 : tc < 6) {ρ : mj_M} {o2 : Option mj_V} (ht : ρ 33 0 15 = (tc : Int)) (hf : ρ 33 0 31 = (f : Int)) : mwI (kd d 94 10 [some (v_r 33 0), some (v_i 0), o2] [] ρ) (fun x ρ' => oR tc x ρ' (.inl f) ∧ fr (fR2 tc) ρ ρ') := by
  obtain ⟨w1, w2⟩ := w424 tc 3 h6 (by decide)
  have w1' : mj_w (mj_w (4 * (tc : Int)) + 3) = ((4 * tc + 3 : Nat) : Int) := w1
  rw [ke94_10, ht, w1', if_pos w2, if_pos rfl, Int.toNat_natCast, hf]
  refine mwI_ret ⟨⟨up_eq _ _ _ _ _, rfl, ?_⟩, fr_tr (fr_up ?_) (fr_up ?_)⟩
  · rw [up_nk (by decide), up_ns (by decide)]; exact ht
  · simp [fR2]
  · simp [fR2]
theorem stop_R (d : Nat) {tc f : Nat} (h6 : tc < 6) {ρ : mj_M} {a : Int} (ht : ρ 33 0 15 = (tc : Int)) (hf : ρ 33 0 31 = (f : Int)) : mwI (kd d 94 2 [some (v_r 33 0), some (v_i 0), some (v_i a)] [] ρ) (fun x ρ' => oR tc x ρ' (.inl f) ∧ fr (fR2 tc) ρ ρ') := by
  have e : kd d 94 2 [some (v_r 33 0), some (v_i 0), some (v_i a)] [] ρ = kd d 94 10 [some (v_r 33 0), some (v_i 0), none] [] ρ := by
    rw [ke94_2, if_pos rfl, ke94_7, if_pos rfl]
    split <;> rfl
  rw [e]; exact fault_R d h6 ht hf
