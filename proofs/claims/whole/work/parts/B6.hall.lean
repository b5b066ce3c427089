/-! the class's constructor: its loop, its end -/
theorem kzo7_ok : (mk_cells 0 33).all (kzchk offC kzkA memC kzo7) = true := by decide +kernel
def js_lf (j : Nat) : Int32 := Int32.ofInt (Tl j)
def js_ltx : String := "takes base + slow ; waits 30 + more * 5 ; minds wait ;"
theorem Tl_128 : ∀ j, j < 54 → 0 ≤ Tl j ∧ Tl j < 128 := by decide +kernel
theorem js_lfx {j : Nat} (h : j < 54) : ((js_lf j &&& 255).toUInt32 % 65536).toInt32 = Int32.ofInt (Tl j) ∧ mj_n32 (Tl j) := by
  obtain ⟨h1, h2⟩ := Tl_128 j h
  unfold js_lf
  obtain ⟨k, hk⟩ := Int.eq_ofNat_of_zero_le h1
  rw [hk]
  rw [hk] at h2
  refine ⟨js_b128 k (by omega), ?_⟩
  unfold mj_n32
  omega
/-- what the class's constructor finds outside -/
def kzExC (fo : Option Nat) (aw v a7 v7 at_ : Nat) (A : Nat → Prop) (U : State) : Prop := mk_Ext (js_XS fo aw v) (fun _ _ => at_) A U ∧ vk_R "NumbersCalled" 73 js_ltx a7 U ∧ js_St a7 v7 54 js_lf A U
section KC
variable {p : Program} {l : Launch} {e : Env} {R : Room} {s : State} {m : MethodId} {args : Array Value} {below : List Frame} {meth : Method} {c : Code} {Q : State → Prop} {τ : Nat → ClassId} {D : va_G} {tys : List (ClassId × FieldType)} {A : Nat → Prop}
variable {self cells slots : Nat}
theorem kzC_loop {fo : Option Nat} {aw v a7 v7 at_ : Nat} {ν : Nat → Nat} (X : kzX p s m args meth c τ D tys A 7 cX7_init 2) (hE : kzExC fo aw v a7 v7 at_ A s) (hν : ν 0 = self) (hR : 68 ≤ R.frames ∧ 5000 ≤ R.locals) (hf : cells ≤ R.cells ∧ slots ≤ R.slots)
    (K : ∀ (ls : Array Slot) (H : Heap) (locs : List Loc), kzL2 ls self 54 → va_P D vwCl (mk_ws 0 33 (fun s => τ (kzkA s)) (kzad ν offC aw at_) (apM 54)) H → va_D A (mk_ws 0 33 (fun s => τ (kzkA s)) (kzad ν offC aw at_) (apM 54)) → va_S A s.heap H locs → W p l e R s m args below meth c H locs cells slots Q (F0 m 213 ls [])) :
    ∀ (j i : Nat), i + j = 54 → ∀ (ls : Array Slot) (H : Heap) (locs : List Loc), kzL2 ls self (i : Int) → va_P D vwCl (mk_ws 0 33 (fun s => τ (kzkA s)) (kzad ν offC aw at_) (apM i)) H → va_D A (mk_ws 0 33 (fun s => τ (kzkA s)) (kzad ν offC aw at_) (apM i)) → va_S A s.heap H locs → W p l e R s m args below meth c H locs cells slots Q (F0 m 185 ls []) := by
  have hts := X.2.2.2.2.1
  have hAs := X.2.2.2.2.2.2.2.2.1
  have hfx : CallFix p m c cX7_init 2 s args mk_tb (mk_cn 7) := ⟨X.1, X.2.1, X.2.2.1, X.2.2.2.1, hts⟩
  have hCs : js_Cs fo A s := hE.1.2.2.2.1
  have hTY : mk_TY 0 33 (fun s => τ (kzkA s)) tys := kz_TY X.2.2.2.2.2.2.2.1 (by decide)
  have hrcv : ∀ {H : Heap} {locs : List Loc}, va_S A s.heap H locs → ∃ cell : Cell, H[a7]? = some cell ∧ cell.vm.isStatics = false ∧ s.vm.findClass RJ0 = some cell.cls := by
    intro H locs hS
    obtain ⟨cell, g1, g2, g3, -⟩ := hE.2.2.1.kept hS.2.1
    exact ⟨cell, g1, g2, g3⟩
  intro j
  induction j with
  | zero =>
    intro i hi ls H locs L hP hD hS
    have hi : i = 54 := by omega
    subst hi
    refine lv_iload_n X.1 X.2.1 (by decide +kernel : decode cX7_init 185 = .ok (.iload_n 1, 1)) rfl (lv_at L 0 rfl) ?_
    refine va_ldcS X.1 X.2.1 (own := RX7) X.2.2.2.1 hE.2.1 (by decide +kernel : decode cX7_init (185 + 1) = .ok (.ldc 73, 2)) ?_
    have run := js_runV (l := l) (e := e) (below := below) (meth := meth) (H := H) (locs := locs) (cells := cells) (slots := slots) (R := R) (ls := ls) (As := []) (b := a7) (rest := [.int (Int32.ofInt ((54 : Nat) : Int))]) hfx (js_length (fo := fo) (a := a7) (v := v7) (n := 54) (f := js_lf) (sz := H.size) (by decide)) rfl rfl (mk_t2 26 rfl rfl) (mk_t2 27 rfl rfl) (mk_t2 28 rfl rfl) (mk_t1 9 rfl rfl) (mk_t2 29 rfl rfl) ⟨rfl, by decide, by decide, show (parseMethodDescriptor yJ0_length_8abf5.desc).map (fun d => d.parameters.length) = some 0 from by decide +kernel⟩ ⟨by show 1 + 1 ≤ _; omega, by show 8 + (1 + 11) + 30 ≤ _; omega⟩ (hrcv hS) ⟨js_blind, js_pre hCs hE.2.2 hS hAs⟩ L.1 (show (1 : Nat) ≤ 8 from by decide) (by decide +kernel : decode cX7_init (185 + 1 + 2) = .ok (.invokevirtual 75, 3)) hf
    refine va_calli run hS (fun q _ h => hAs q (Nat.le_trans hS.1 h)) (fun q h => hAs q (Nat.le_trans hS.1 h)) (fun r u t H1 locs1 ht hvm hp _ hz1 hk1 hS1 => ?_)
    rw [show r = nI 54 from hp]
    refine lv_icmp_ge X.1 X.2.1 (off := 22) (tgt := 213) (by decide +kernel : decode cX7_init (185 + 1 + 2 + 3) = .ok (.if_icmp .ge 22, 3)) rfl (fun _ => ?_) (fun g => absurd (by rw [mj_I_N]; exact Int32.le_refl _) g)
    exact K ls H1 locs1 L (hP.kept fun k y hy => hk1 y.1 ((hP k y hy).lt) (fun hq => Nat.lt_irrefl _ (Nat.lt_of_lt_of_le ((hP k y hy).lt) hq))) hD hS1
  | succ j ih =>
    intro i hi ls H locs L hP hD hS
    have hlt : i < 54 := by omega
    refine lv_iload_n X.1 X.2.1 (by decide +kernel : decode cX7_init 185 = .ok (.iload_n 1, 1)) rfl (lv_at L 0 rfl) ?_
    refine va_ldcS X.1 X.2.1 (own := RX7) X.2.2.2.1 hE.2.1 (by decide +kernel : decode cX7_init (185 + 1) = .ok (.ldc 73, 2)) ?_
    have run := js_runV (l := l) (e := e) (below := below) (meth := meth) (H := H) (locs := locs) (cells := cells) (slots := slots) (R := R) (ls := ls) (As := []) (b := a7) (rest := [.int (Int32.ofInt (i : Int))]) hfx (js_length (fo := fo) (a := a7) (v := v7) (n := 54) (f := js_lf) (sz := H.size) (by decide)) rfl rfl (mk_t2 26 rfl rfl) (mk_t2 27 rfl rfl) (mk_t2 28 rfl rfl) (mk_t1 9 rfl rfl) (mk_t2 29 rfl rfl) ⟨rfl, by decide, by decide, show (parseMethodDescriptor yJ0_length_8abf5.desc).map (fun d => d.parameters.length) = some 0 from by decide +kernel⟩ ⟨by show 1 + 1 ≤ _; omega, by show 8 + (1 + 11) + 30 ≤ _; omega⟩ (hrcv hS) ⟨js_blind, js_pre hCs hE.2.2 hS hAs⟩ L.1 (show (1 : Nat) ≤ 8 from by decide) (by decide +kernel : decode cX7_init (185 + 1 + 2) = .ok (.invokevirtual 75, 3)) hf
    refine va_calli run hS (fun q _ h => hAs q (Nat.le_trans hS.1 h)) (fun q h => hAs q (Nat.le_trans hS.1 h)) (fun r u t H1 locs1 ht hvm hp _ hz1 hk1 hS1 => ?_)
    rw [show r = nI 54 from hp]
    have hP1 := hP.kept (H1 := H1) fun k y hy => hk1 y.1 ((hP k y hy).lt) (fun hq => Nat.lt_irrefl _ (Nat.lt_of_lt_of_le ((hP k y hy).lt) hq))
    refine lv_icmp_ge X.1 X.2.1 (off := 22) (tgt := 213) (by decide +kernel : decode cX7_init (185 + 1 + 2 + 3) = .ok (.if_icmp .ge 22, 3)) rfl (fun g => absurd g (by rw [mj_I_N]; exact Int32.not_le.mpr (nI_lt hlt (by decide)))) (fun _ => ?_)
    -- tape
    refine lv_aload_n (x := self) X.1 X.2.1 (by decide +kernel : decode cX7_init (185 + 1 + 2 + 3 + 3) = .ok (.aload_n 0, 1)) rfl (lv_at L 1 rfl) ?_
    obtain ⟨j0, hj0⟩ := mk_cell_at (lo := 0) (hi := 33) (s := 0) (i := 0) (by decide) (by decide) (by decide)
    have hat := mk_ws_at (cA := fun s => τ (kzkA s)) (ad := kzad ν offC aw at_) (μ := apM i) hj0
    have e00 : kzad ν offC aw at_ 0 0 = self := by rw [kzad_lt (by decide)]; exact hν
    rw [e00] at hat
    refine va_get (a := self) (v := .ref (kzad ν offC aw at_ 14 0)) (fs := mk_fs (kzad ν offC aw at_) (apM i) 0 0 0 [some (1, 0), some (1, 1), none, some (6, 0), some (8, 0), none, some (14, 0), some (18, 0), some (21, 0), some (31, 0), some (32, 0)]) (ci := 7) (C := RX7) (T := TX7) (N := 11) (ref := RX7) X.1 X.2.1 hts (mk_cls (ci := 7) rfl).1 X.2.2.2.1 X.2.2.2.2.2.2.1 hP1 j0 hat rfl 6 (by decide) (hts _ (mk_t2 160 rfl rfl)) (fun _ h => h) rfl (by decide +kernel : decode cX7_init (185 + 1 + 2 + 3 + 3 + 1) = .ok (.getfield 42, 3)) ?_
    refine va_ldcS X.1 X.2.1 (own := RX7) X.2.2.2.1 hE.2.1 (by decide +kernel : decode cX7_init (185 + 1 + 2 + 3 + 3 + 1 + 3) = .ok (.ldc 73, 2)) ?_
    refine lv_iload_n X.1 X.2.1 (by decide +kernel : decode cX7_init (185 + 1 + 2 + 3 + 3 + 1 + 3 + 2) = .ok (.iload_n 1, 1)) rfl (lv_at L 0 rfl) ?_
    rw [mj_I_N]
    have run2 := js_runV (l := l) (e := e) (below := below) (meth := meth) (H := H1) (locs := locs1) (cells := cells) (slots := slots) (R := R) (ls := ls) (As := [.int (nI i)]) (b := a7) (rest := [.ref (kzad ν offC aw at_ 14 0)]) hfx (js_charAt (fo := fo) (a := a7) (v := v7) (n := 54) (f := js_lf) (sz := H1.size) (by decide) hlt) rfl rfl (mk_t2 36 rfl rfl) (mk_t2 37 rfl rfl) (mk_t2 38 rfl rfl) (mk_t1 9 rfl rfl) (mk_t2 39 rfl rfl) ⟨rfl, by decide, by decide, show (parseMethodDescriptor yJ0_charAt_5068e.desc).map (fun d => d.parameters.length) = some 1 from by decide +kernel⟩ ⟨by show 3 + 1 ≤ _; omega, by show 8 + (2 + 11) + 90 ≤ _; omega⟩ (hrcv hS1) ⟨js_blind, js_pre hCs hE.2.2 hS1 hAs⟩ L.1 (show (1 : Nat) ≤ 8 from by decide) (by decide +kernel : decode cX7_init (185 + 1 + 2 + 3 + 3 + 1 + 3 + 2 + 1) = .ok (.invokevirtual 81, 3)) hf
    refine va_calli run2 hS1 (fun q _ h => hAs q (Nat.le_trans hS1.1 h)) (fun q h => hAs q (Nat.le_trans hS1.1 h)) (fun r2 u2 t2 H2 locs2 ht2 hvm2 hp2 _ hz2 hk2 hS2 => ?_)
    rw [show r2 = _ from hp2, (js_lfx hlt).1]
    have hP2 := hP1.kept (H1 := H2) fun k y hy => hk2 y.1 ((hP1 k y hy).lt) (fun hq => Nat.lt_irrefl _ (Nat.lt_of_lt_of_le ((hP1 k y hy).lt) hq))
    -- append
    have hM := mk_sound (l := l) (D := D) (js_XSc fo aw v) (js_Str (lo := 0) (hi := 33) (cA := fun s => τ (kzkA s)) (ad := kzad ν offC aw at_) (D := D) (tys := tys) (fo := fo) (v := v)) ⟨mk_nd_C, mk_closed_C, hTY⟩ (apM_s 10 i hlt)
    have hmt := hM.2 (fun w hw => by
      rcases List.mem_cons.mp hw with g | g
      · rw [g]; exact Or.inl ⟨by decide, by decide, by decide⟩
      · rcases List.mem_cons.mp g with g | g
        · rw [g]; exact (js_lfx hlt).2
        · cases g) (apM_vm i (by omega)) H2.size
    obtain ⟨hAA, hblind, hpre⟩ := kz_pre (as := [v_r 14 0, v_i (Tl i)]) hE.1 (ad := kzad ν offC aw at_) rfl X.2.2.2.2.2.2.1 hAs hP2 hD hS2
    obtain ⟨j1, hj1⟩ := mk_cell_at (lo := 0) (hi := 33) (s := 14) (i := 0) (by decide) (by decide) (by decide)
    have hat1 := mk_ws_at (cA := fun s => τ (kzkA s)) (ad := kzad ν offC aw at_) (μ := apM i) hj1
    have hrecv : ∃ cell : Cell, H2[kzad ν offC aw at_ 14 0]? = some cell ∧ cell.vm.isStatics = false ∧ s.vm.findClass (mk_mi 197).1.cls = some cell.cls :=
      va_recv (ci := 5) (q := (RX5, TX5, 9)) X.2.2.2.2.2.2.1 hP2 rfl hat1
    have run3 := js_runV (l := l) (e := e) (below := below) (meth := meth) (H := H2) (locs := locs2) (cells := cells) (slots := slots) (R := R) (ls := ls) (pc := 204) (index := 85) (y := (mk_mi 197).1) (bytes := (mk_mi 197).2.1) (maxL := (mk_mi 197).2.2.2.2.1) (ret := (mk_mi 197).2.2.1) (rm := mk_rm 10) (mc := 0) (ms := 0) (As := [.int (Int32.ofInt (Tl i))]) (b := kzad ν offC aw at_ 14 0) (rest := []) (own := mk_cn 7) (cc := cX7_init) (nL := 2)
      hfx hmt rfl rfl (mk_t2 74 rfl rfl) (mk_t2 75 rfl rfl) (mk_t2 76 rfl rfl) (mk_t1 3 rfl rfl) (mk_t2 77 rfl rfl) ⟨rfl, by decide, by decide, show (parseMethodDescriptor (mk_mi 197).1.desc).map (fun d => d.parameters.length) = some 1 from by decide +kernel⟩ ⟨by show 10 + 8 + 1 ≤ _; omega, by show 8 + (2 + 11) + (64 * 10 + 400) ≤ _; omega⟩ hrecv ⟨hblind, hpre⟩ L.1 (by decide) (by decide +kernel) hf
    refine va_callv (a := #[Value.ref (kzad ν offC aw at_ 14 0), .int (Int32.ofInt (Tl i))]) (S := Unit) (post := fun _ => True) (B := fun _ => mk_B 0 33 (fun s => τ (kzkA s)) (kzad ν offC aw at_) D tys (apM (i + 1)) H2.size) (A1 := mk_A 0 33 (kzad ν offC aw at_) H2.size) run3 hS2 (fun x _ h => hAA x h) hAA (fun u3 t3 H3 locs3 ht3 hvm3 _ hB hz3 hk3 hS3 => ?_)
    obtain ⟨b1, b2, b3, b4⟩ := hB
    rw [ht3] at b2
    refine lv_iinc (k := 0) (v := Int32.ofInt ((i + 1 : Nat) : Int)) (lv' := [(1, .int (Int32.ofInt ((i + 1 : Nat) : Int))), (0, .ref self)]) X.1 X.2.1 (by decide +kernel : decode cX7_init (204 + 3) = .ok (.iinc 1 1, 3)) L rfl ?_ (by decide) rfl (fun ls' L' => ?_)
    · rw [mj_I_N, mj_I_N, nI_succ]
      rfl
    refine lv_goto X.1 X.2.1 (off := -25) (tgt := 185) (by decide +kernel : decode cX7_init (204 + 3 + 3) = .ok (.goto (-25), 3)) rfl ?_
    exact ih (i + 1) (by omega) ls' H3 locs3 L' b2 (b4.weaken (fun _ _ _ hx => hAA _ hx)) hS3
/-- new NumbersCalled() -/
theorem kzcC (hT : kzT τ tys) {fo : Option Nat} {aw v a7 v7 at_ : Nat} {x : Int} {μ1 : mj_M} (hk : kc 60 6 [v_r 0 0] (apM 54) = some (some (v_i x), μ1)) : ∀ q sz : Nat, Met l yX7_init (js_ws yX7_init cX7_init 2 none) kzr7 (kzPreB D tys 7 kzz7 q sz (kzExC fo aw v a7 v7 at_)) (kzPostB τ D q sz 0 33 offC aw at_ μ1) 88 2119 (kzA q sz) := by
  refine kz_metB (own := 7) (n := 2) (Post := fun q sz => kzPostB τ D q sz 0 33 offC aw at_ μ1) (by decide) rfl rfl (by decide) hT ?_
  intro p e s m args below meth c ls q X L hr hlk hE
  refine kzb7 X L (fun ls1 L1 => ?_)
  intro ν H locs h0 hP hD hS
  obtain ⟨hP2, hD2⟩ := kz_ws (aw := aw) (at_ := at_) kzo7_ok offC_nd hP hD
  refine kzC_loop X hE h0 ⟨by decide, by decide⟩ ⟨by decide, by decide⟩ (fun ls2 H2 locs2 L2 hP3 hD3 hS3 => ?_) 54 0 rfl ls1 H locs L1 hP2 hD2 hS
  refine lv_aload_n (x := q) X.1 X.2.1 (by decide +kernel : decode cX7_init 213 = .ok (.aload_n 0, 1)) rfl (lv_at L2 1 rfl) ?_
  exact kz_tx (y := 6) (s0 := 0) (idx := 89) X L2.1 hE.1 ⟨mk_nd_C, mk_closed_C, by decide⟩ (apM_vm 54 (by decide)) hk ⟨by decide, by decide, by decide⟩ rfl h0 rfl (mk_t2 78 rfl rfl) (mk_t2 79 rfl rfl) (mk_t2 80 rfl rfl) (mk_t1 1 rfl rfl) (mk_t2 81 rfl rfl) ⟨rfl, by decide, by decide, by decide +kernel⟩ ⟨by decide, by decide⟩ (by decide) ⟨7, _, _, rfl, _, rfl, rfl⟩ ⟨by decide, by decide⟩ hr hlk (by decide +kernel) (by decide +kernel) (by decide +kernel) hP3 hD3 hS3
end KC
