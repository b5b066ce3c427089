/-! the reference's constructor: its loop, its end -/
noncomputable def kzlaw : List kzU := ((kzo8[15]?).getD (0, 0, [])).2.2
noncomputable def kzT8 (i : Nat) : List kzC := kzo8.set 7 (1, 160, kzlaw.take i)
theorem kzlaw_n : kzlaw.length = 54 := by decide +kernel
theorem kzlaw_a : (List.range 54).all (fun i => kzvb (kzlaw[i]?) (.inl (kzI kzlaw i))) = true := by decide +kernel
theorem kzlaw_at {i : Nat} (h : i < 54) : kzlaw[i]? = some (.inl (kzI kzlaw i)) := kzvb_eq (List.all_eq_true.mp kzlaw_a i (List.mem_range.mpr h))
theorem kzo8_n : kzo8.length = 30 := by decide +kernel
theorem kzo8_15 : kzo8[15]? = some (1, 54, kzlaw) := kzcb_eq (by decide +kernel)
theorem kzT8_7 (i : Nat) : (kzT8 i)[7]? = some (1, 160, kzlaw.take i) := by
  unfold kzT8
  rw [List.getElem?_set, if_pos rfl, if_pos (by rw [kzo8_n]; decide)]
theorem kzT8_ne {i k : Nat} (h : k ≠ 7) : (kzT8 i)[k]? = kzo8[k]? := by
  unfold kzT8
  rw [List.getElem?_set, if_neg (fun e => h e.symm)]
theorem kzT8_0 : kzo8 = kzT8 0 := kzb_eq (by decide +kernel)
theorem kzget_T8 {i j : Nat} : kzget (kzT8 i) 0 8 j = kzget kzo8 0 8 j := by
  unfold kzget
  rw [kzT8_ne (by decide)]
theorem kzT8_s {i : Nat} (h : i < 54) : (kzT8 i).set 7 (1, 160, kzlaw.take i ++ [.inl (kzI kzlaw i)]) = kzT8 (i + 1) := by
  unfold kzT8
  rw [List.set_set, List.take_add_one, kzlaw_at h]
  rfl
def tpMc (n : Nat) : mj_M := fun s i k => if s = 40 ∧ i = 0 ∧ k < n then Tl k else memR s i k
theorem tpM_c : ∀ n, tpM n = tpMc n
  | 0 => by
    funext s i k
    show memR s i k = _
    unfold tpMc
    rw [if_neg (fun h => Nat.not_lt_zero k h.2.2)]
  | n + 1 => by
    funext s i k
    show mj_up (tpM n) 40 0 n (Tl n) s i k = _
    rw [tpM_c n, up_ap]
    unfold tpMc
    by_cases h : s = 40 ∧ k = n ∧ i = 0
    · rw [if_pos h, if_pos ⟨h.1, h.2.2, by omega⟩, h.2.1]
    · rw [if_neg h]
      by_cases g : s = 40 ∧ i = 0 ∧ k < n
      · rw [if_pos g, if_pos ⟨g.1, g.2.1, by omega⟩]
      · rw [if_neg g, if_neg]
        rintro ⟨g1, g2, g3⟩
        by_cases e : k = n
        · exact h ⟨g1, e, g2⟩
        · exact g ⟨g1, g2, by omega⟩
noncomputable def kzF8 : List kzC := (kzput 8 12 (.inl 54) (kzT8 54)).getD []
theorem kzF8_eq : kzob (kzput 8 12 (.inl 54) (kzT8 54)) kzF8 = true := by decide +kernel
theorem kzF8_ok : (mk_cells 33 63).all (kzchk offR kzkA (mj_up (tpMc 54) 33 0 12 54) kzF8) = true := by decide +kernel
section KR
variable {p : Program} {l : Launch} {e : Env} {R : Room} {s : State} {m : MethodId} {args : Array Value} {below : List Frame} {meth : Method} {c : Code} {Q : State → Prop} {τ : Nat → ClassId} {D : va_G} {tys : List (ClassId × FieldType)} {A : Nat → Prop} {own : Nat} {bytes : ByteArray} {n : Nat}
variable {ls : Array Slot} {self cells slots pc : Nat} {cs : List kzC} {sv : List kzU}
theorem kz_ild (X : kzX p s m args meth c τ D tys A own bytes n) {i k0 N : Nat} {vs : List kzU} (hc : cs[k0]? = some (1, N, vs)) (hi : i < N) (hN : N < 2147483648) (d : decode bytes pc = .ok (.iaload, 1)) (k : kzG p l e R s m args below meth c Q τ D A ls self cells slots cs (pc + 1) (.inl (kzI vs i) :: sv)) : kzG p l e R s m args below meth c Q τ D A ls self cells slots cs pc (.inl (i : Int) :: .inr (some k0) :: sv) := by
  intro ν H locs h0 hP hD hS
  have ei : Int32.ofInt (i : Int) = nI i := mj_I_N _
  show W p l e R s m args below meth c H locs cells slots Q (F0 m pc ls (.int (Int32.ofInt (i : Int)) :: .ref (ν k0) :: sv.map (kzV ν)))
  rw [ei]
  refine va_iald X.1 X.2.1 X.2.2.2.2.2.2.1 hP k0 0 (kzW_get hc) X.2.2.2.2.2.2.2.1.1 (vp_in_nI hi hN) d ?_
  rw [nI_clamp (by omega)]
  exact k ν H locs h0 hP hD hS
theorem kz_ia2 (X : kzX p s m args meth c τ D tys A own bytes n) {x : Int} {N k0 i : Nat} {vs : List kzU} {cs2 : List kzC} (hc : cs[k0]? = some (1, N, vs)) (hl : vs.length = i) (hi : i < N) (hN : N < 2147483648) (h2 : cs.set k0 (1, N, vs ++ [.inl x]) = cs2) (d : decode bytes pc = .ok (.iastore, 1)) (k : kzG p l e R s m args below meth c Q τ D A ls self cells slots cs2 (pc + 1) sv) : kzG p l e R s m args below meth c Q τ D A ls self cells slots cs pc (.inl x :: .inl (i : Int) :: .inr (some k0) :: sv) := by
  subst hl
  subst h2
  exact kz_ia X hc hi hN d k
theorem kzR_loop (X : kzX p s m args meth c τ D tys A 8 cX8_init 2) (K : ∀ ls : Array Slot, kzL2 ls self 54 → kzG p l e R s m args below meth c Q τ D A ls self cells slots (kzT8 54) 1178 []) : ∀ (j i : Nat), i + j = 54 → ∀ ls : Array Slot, kzL2 ls self (i : Int) → kzG p l e R s m args below meth c Q τ D A ls self cells slots (kzT8 i) 1154 [] := by
  intro j
  induction j with
  | zero =>
    intro i hi ls L
    have hi : i = 54 := by omega
    subst hi
    refine kz_il X L (by decide +kernel) ?_
    refine kz_k X (x := 54) (Or.inr (Or.inl ⟨(by decide +kernel), rfl, by decide⟩)) ?_
    exact kz_gt X (off := 21) (tgt := 1178) (by decide) (by decide +kernel) rfl (K ls L)
  | succ j ih =>
    intro i hi ls L
    have hlt : i < 54 := by omega
    refine kz_il X L (by decide +kernel) ?_
    refine kz_k X (x := 54) (Or.inr (Or.inl ⟨(by decide +kernel), rfl, by decide⟩)) ?_
    refine kz_gn X (off := 21) (tgt := 1178) ?_ (by decide +kernel) rfl ?_
    · rw [mj_I_N]
      exact Int32.not_le.mpr (nI_lt hlt (by decide))
    refine kz_al0 X L.L (by decide +kernel) ?_
    refine ky_gf X (idx := 35) (k0 := 0) (ci := 8) (T := TX8) (Cn := RX8) (N := 54) (j := 11) (o := "NumbersCalledModel") (nm := "tape") (dsc := "[I") (fin := true) (v := .inr (some 7)) (pc2 := 1164) rfl (by decide) (by decide +kernel) (mk_t4 219 rfl rfl) (by rw [kzget_T8]; decide +kernel) (by decide +kernel) rfl ?_
    refine kz_il X L (by decide +kernel) ?_
    refine kz_al0 X L.L (by decide +kernel) ?_
    refine ky_gf X (idx := 59) (k0 := 0) (ci := 8) (T := TX8) (Cn := RX8) (N := 54) (j := 29) (o := "NumbersCalledModel") (nm := "law") (dsc := "[I") (fin := true) (v := .inr (some 15)) (pc2 := 1169) rfl (by decide) (by decide +kernel) (mk_t4 237 rfl rfl) (by rw [kzget_T8]; decide +kernel) (by decide +kernel) rfl ?_
    refine kz_il X L (by decide +kernel) ?_
    refine kz_ild X (N := 54) (vs := kzlaw) (by rw [kzT8_ne (by decide)]; exact kzo8_15) hlt (by decide) (by decide +kernel) ?_
    refine kz_ia2 X (N := 160) (kzT8_7 i) (by rw [List.length_take, kzlaw_n]; omega) (by omega) (by decide) (kzT8_s hlt) (by decide +kernel) ?_
    refine kz_ii X (j := ((i + 1 : Nat) : Int)) L ?_ (by decide +kernel) (fun ls' L' => ?_)
    · rw [mj_I_N, mj_I_N, nI_succ]
      rfl
    exact kz_go X (off := -21) (tgt := 1154) (by decide +kernel) rfl (ih (i + 1) (by omega) ls' L')
/-- new NumbersCalledModel() -/
theorem kzcR (hT : kzT τ tys) {fo : Option Nat} {aw v at_ : Nat} {x : Int} {μ1 : mj_M} (hk : kc 60 94 [v_r 33 0] (mj_up (tpM 54) 33 0 12 54) = some (some (v_i x), μ1)) : ∀ q sz : Nat, Met l yX8_init (js_ws yX8_init cX8_init 2 none) kzr8 (kzPreB D tys 8 kzz8 q sz (fun A U => mk_Ext (js_XS fo aw v) (fun _ _ => at_) A U)) (kzPostB τ D q sz 33 63 offR aw at_ μ1) 29 2402 (kzA q sz) := by
  refine kz_metB (own := 8) (n := 2) (Post := fun q sz => kzPostB τ D q sz 33 63 offR aw at_ μ1) (by decide) rfl rfl (by decide) hT ?_
  intro p e s m args below meth c ls q X L hr hlk hE
  refine kzb8 X L (fun ls1 L1 => ?_)
  rw [kzT8_0]
  refine kzR_loop X (fun ls2 L2 => ?_) 54 0 rfl ls1 L1
  refine kz_al0 X L2.L (by decide +kernel) ?_
  refine kz_k X (x := 54) (Or.inr (Or.inl ⟨(by decide +kernel), rfl, by decide⟩)) ?_
  refine ky_put X (idx := 105) (ci := 8) (T := TX8) (Cn := RX8) (N := 54) (j := 12) (o := "NumbersCalledModel") (nm := "taped") (dsc := "I") (fin := false) (ty := .int) (cs2 := kzF8) (pc2 := 1184) rfl (by decide) (by decide +kernel) (mk_t4 220 rfl rfl) rfl (by decide +kernel) (fun _ => rfl) (fun _ => rfl) kzF8_eq rfl (by decide +kernel) ?_
  refine kz_al0 X L2.L (by decide +kernel) ?_
  intro ν H locs h0 hP hD hS
  have hk2 := hk
  rw [tpM_c] at hk2
  obtain ⟨hP2, hD2⟩ := kz_ws (aw := aw) (at_ := at_) kzF8_ok offR_nd hP hD
  have hm : mk_vm (mj_up (tpMc 54) 33 0 12 54) := by
    rw [← tpM_c]
    exact mk_vm_up (tpM_vm 54) (by unfold mj_n64; decide) (fun _ => by unfold mj_n32; decide)
  show W p l e kzr8 s m args below meth c H locs 29 2402 _ (F0 m (1184 + 1) ls2 [.ref (ν 0)])
  rw [h0]
  exact kz_tx (y := 94) (s0 := 33) (idx := 108) X L2.1 hE ⟨mk_nd_R, mk_closed_R, by decide⟩ hm hk2 ⟨by decide, by decide, by decide⟩ rfl h0 rfl (mk_t4 161 rfl rfl) (mk_t4 162 rfl rfl) (mk_t4 163 rfl rfl) (mk_t1 13 rfl rfl) (mk_t4 164 rfl rfl) ⟨rfl, by decide, by decide, by decide +kernel⟩ ⟨by decide, by decide⟩ (by decide) ⟨8, _, _, rfl, _, rfl, rfl⟩ ⟨by decide, by decide⟩ hr hlk (by decide +kernel) (by decide +kernel) (by decide +kernel) hP2 hD2 hS
end KR
