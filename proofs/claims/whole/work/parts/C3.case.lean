/-! calls out of the law; one case of its switch -/
def lwAd (s : State) : Nat → Prop := fun q => s.heap.size ≤ q
def lwC (p : Program) (s : State) (m : MethodId) (args : Array Value) (c : Code) (b L : Nat) (xs : Nat → Int32) (fo : Option Nat) (aw v at_ : Nat) (τ : Nat → ClassId) (D : va_G) (tys : List (ClassId × FieldType)) : Prop :=
  CallFix p m c code 4 s args mk_tb R_law ∧ va_X b L xs s s.heap ∧ b < s.heap.size ∧ L ≤ 3584 ∧ va_K D vwCl tys s ∧ kzT τ tys ∧ mk_Ext (js_XS fo aw v) (fun _ _ => at_) (lwAd s) s
def lwWd (a y n : Nat) (C : String) : Prop := y < 217 ∧ Cond.methodLink R_law a (mk_mi y).1 ∈ mk_tb ∧ Cond.instanceMethod (mk_mi y).1 ∈ mk_tb ∧ Cond.selects (mk_mi y).1.cls (mk_mi y).1 (mk_mi y).1 ∈ mk_tb ∧ (parseMethodDescriptor (mk_mi y).1.desc).map (fun d => d.parameters.length) = some n ∧ (mk_mi y).1.cls = C
def lwCk (k P a b p1 p2 : Nat) (off : Int) : Prop := decode code P = .ok (.aload_n 1, 1) ∧ lwArg code (P + 1) 1 (lwAr.getD k 0) = some p1 ∧ decode code p1 = .ok (.invokevirtual a, 3) ∧ decode code (p1 + 3) = .ok (.aload_n 2, 1) ∧ lwArg code (p1 + 3 + 1) 1 (lwAr.getD k 0) = some p2 ∧ decode code p2 = .ok (.invokevirtual b, 3) ∧
  ((¬ (k = 29 ∨ k = 36) ∧ decode code (p2 + 3) = .ok (.if_icmp .eq off, 3) ∧ ((p2 + 3 : Nat) : Int) + off = ((1630 : Nat) : Int)) ∨ ((k = 29 ∨ k = 36) ∧ decode code (p2 + 3) = .ok (.lcmp, 1) ∧ decode code (p2 + 3 + 1) = .ok (.ifCond .eq off, 3) ∧ ((p2 + 3 + 1 : Nat) : Int) + off = ((1630 : Nat) : Int))) ∧ lwAr.getD k 0 ≤ 6 ∧
  lwWd a k (lwAr.getD k 0) RX7 ∧ lwWd b (lwRf.getD k 0) (lwAr.getD k 0) RX8
section LC
variable {p : Program} {l : Launch} {e : Env} {s : State} {m : MethodId} {args : Array Value} {below : List Frame} {meth : Method} {c : Code} {Q : State → Prop} {H : Heap} {locs : List Loc} {cells slots pc : Nat} {ls : Array Slot} {rest : List Value}
variable {b L : Nat} {xs : Nat → Int32} {fo : Option Nat} {aw v at_ : Nat} {τ : Nat → ClassId} {D : va_G} {tys : List (ClassId × FieldType)}
theorem lw_call (C : lwC p s m args c b L xs fo aw v at_ τ D tys) {lo hi y s0 idx n : Nat} {Cn : String} {off : Nat → Nat → Nat} {ν : Nat → Nat} {μ : mj_M} {Y : va_W} {as : List mj_V} {r : Option mj_V × mj_M} (hW : (mk_cells lo hi).Nodup ∧ mk_closed lo hi = true ∧ hi ≤ 63) (hm : mk_vm μ) (hk : kc 60 y (v_r s0 0 :: as) μ = some r) (has : ∀ w ∈ as, mk_vv lo hi w) (hn : as.length = n) (hs0 : lo ≤ s0 ∧ s0 < hi ∧ 0 < mk_cnt s0) (hcl : ∃ ci cn sl, mj_srt mk_LY s0 = (0, ci, cn, sl) ∧ ∃ qc, vwCl[ci]? = some qc ∧ qc.1 = Cn) (hw : lwWd idx y n Cn)
    (hP : va_P D vwCl (mk_ws lo hi (fun s => τ (kzkA s)) (kzad ν off aw at_) μ ++ Y) H) (hD : va_D (lwAd s) (mk_ws lo hi (fun s => τ (kzkA s)) (kzad ν off aw at_) μ ++ Y)) (hS : va_S (lwAd s) s.heap H locs) (hls : ls.size = 4) (hcat : (rest.map fun v => v.category).sum ≤ 8) (hdg : decode code pc = .ok (.invokevirtual idx, 3)) (hf : cells ≤ room_1.cells ∧ slots ≤ room_1.slots) :
    (∀ x, mk_A lo hi (kzad ν off aw at_) H.size x → lwAd s x) ∧ va_Run p l e room_1 s m args below meth c H locs cells slots 0 0 (F0 m pc ls ((as.map (mk_ev (kzad ν off aw at_))).reverse ++ .ref (kzad ν off aw at_ s0 0) :: rest)) rest (mk_Post lo hi (fun s => τ (kzkA s)) (kzad ν off aw at_) D tys r H.size (Value.ref (kzad ν off aw at_ s0 0) :: as.map (mk_ev (kzad ν off aw at_))).toArray) (mk_A lo hi (kzad ν off aw at_) H.size) := by
  obtain ⟨hfx, hX, hbl, hL, hK, hT, hE⟩ := C
  obtain ⟨w1, w2, w3, w4, w5, w6⟩ := hw
  have hTY : mk_TY lo hi (fun s => τ (kzkA s)) tys := kz_TY hT hW.2.2
  have hM := mk_sound (l := l) (D := D) (js_XSc fo aw v) (js_Str (lo := lo) (hi := hi) (cA := fun s => τ (kzkA s)) (ad := kzad ν off aw at_) (D := D) (tys := tys) (fo := fo) (v := v)) ⟨hW.1, hW.2.1, hTY⟩ hk
  have hmt := hM.2 (fun w hw => by
    rcases List.mem_cons.mp hw with g | g
    · rw [g]; exact Or.inl hs0
    · exact has w g) hm H.size
  have hP1 := lw_sL hP
  have hD1 := lw_dL hD
  obtain ⟨hAA, hblind, hpre⟩ := kz_pre (as := v_r s0 0 :: as) hE (ad := kzad ν off aw at_) rfl hK (fun _ h => h) hP1 hD1 hS
  have hrecv : ∃ cell : Cell, H[kzad ν off aw at_ s0 0]? = some cell ∧ cell.vm.isStatics = false ∧ s.vm.findClass (mk_mi y).1.cls = some cell.cls := by
    obtain ⟨ci, cn, sl, e1, qc, e2, e3⟩ := hcl
    obtain ⟨j, hj⟩ := mk_cell_at hs0.1 hs0.2.1 hs0.2.2
    have hat := mk_ws_at (cA := fun s => τ (kzkA s)) (ad := kzad ν off aw at_) (μ := μ) hj
    have hen : mk_en (fun s => τ (kzkA s)) (kzad ν off aw at_) μ s0 0 = .inr (ci, mk_fs (kzad ν off aw at_) μ s0 0 0 sl) := by simp only [mk_en, e1]
    rw [hen] at hat
    rw [w6, ← e3]
    exact va_recv hK hP1 e2 hat
  obtain ⟨c1, c2, c3, c4, c5, c6⟩ := mk_mi_c w1
  refine ⟨hAA, ?_⟩
  exact js_runV (l := l) (e := e) (below := below) (meth := meth) (H := H) (locs := locs) (cells := cells) (slots := slots) (R := room_1) (ls := ls) (pc := pc) (index := idx) (y := (mk_mi y).1) (bytes := (mk_mi y).2.1) (maxL := (mk_mi y).2.2.2.2.1) (ret := (mk_mi y).2.2.1) (rm := mk_rm 59) (mc := 0) (ms := 0) (As := as.map (mk_ev (kzad ν off aw at_))) (b := kzad ν off aw at_ s0 0) (rest := rest) (own := R_law) (cc := code) (nL := 4)
    hfx hmt rfl rfl w2 w3 w4 (mk_ini w1) (mk_wyw w1 _ List.mem_cons_self) ⟨rfl, c2.1, c2.2, by rw [w5, List.length_map, hn]⟩ ⟨by show 59 + 8 + 1 ≤ 2048; decide, by show 8 + (_ + 11) + (64 * 59 + 400) ≤ 84000; omega⟩ hrecv ⟨hblind, hpre⟩ hls hcat hdg hf
theorem lw_callI (C : lwC p s m args c b L xs fo aw v at_ τ D tys) {lo hi y s0 idx n : Nat} {Cn : String} {off : Nat → Nat → Nat} {ν : Nat → Nat} {μ μ' : mj_M} {Y : va_W} {as : List mj_V} {x : Int} (hW : (mk_cells lo hi).Nodup ∧ mk_closed lo hi = true ∧ hi ≤ 63) (hm : mk_vm μ) (hk : kc 60 y (v_r s0 0 :: as) μ = some (some (v_i x), μ')) (has : ∀ w ∈ as, mk_vv lo hi w) (hn : as.length = n) (hs0 : lo ≤ s0 ∧ s0 < hi ∧ 0 < mk_cnt s0) (hcl : ∃ ci cn sl, mj_srt mk_LY s0 = (0, ci, cn, sl) ∧ ∃ qc, vwCl[ci]? = some qc ∧ qc.1 = Cn) (hw : lwWd idx y n Cn)
    (hP : va_P D vwCl (mk_ws lo hi (fun s => τ (kzkA s)) (kzad ν off aw at_) μ ++ Y) H) (hD : va_D (lwAd s) (mk_ws lo hi (fun s => τ (kzkA s)) (kzad ν off aw at_) μ ++ Y)) (hS : va_S (lwAd s) s.heap H locs) (hls : ls.size = 4) (hcat : (rest.map fun v => v.category).sum ≤ 8) (hdg : decode code pc = .ok (.invokevirtual idx, 3)) (hf : cells ≤ room_1.cells ∧ slots ≤ room_1.slots)
    (k : ∀ (H1 : Heap) (locs1 : List Loc), mk_vm μ' → va_P D vwCl (mk_ws lo hi (fun s => τ (kzkA s)) (kzad ν off aw at_) μ' ++ Y) H1 → va_D (lwAd s) (mk_ws lo hi (fun s => τ (kzkA s)) (kzad ν off aw at_) μ' ++ Y) → va_S (lwAd s) s.heap H1 locs1 → W p l e room_1 s m args below meth c H1 locs1 cells slots Q (F0 m (pc + 3) ls (.int (Int32.ofInt x) :: rest))) :
    W p l e room_1 s m args below meth c H locs cells slots Q (F0 m pc ls ((as.map (mk_ev (kzad ν off aw at_))).reverse ++ .ref (kzad ν off aw at_ s0 0) :: rest)) := by
  obtain ⟨hAA, run⟩ := lw_call (l := l) (e := e) (below := below) (meth := meth) C hW hm hk has hn hs0 hcl hw hP hD hS hls hcat hdg hf
  refine va_calli (a := (Value.ref (kzad ν off aw at_ s0 0) :: as.map (mk_ev (kzad ν off aw at_))).toArray) (S := Unit) (post := fun w _ => w = Int32.ofInt x ∧ mj_n32 x) (B := fun _ => mk_B lo hi (fun s => τ (kzkA s)) (kzad ν off aw at_) D tys μ' H.size) (A1 := mk_A lo hi (kzad ν off aw at_) H.size) run hS (fun x _ h => hAA x h) hAA (fun r u t H1 locs1 ht hvm hw hB hz1 hk1 hS1 => ?_)
  obtain ⟨b1, b2, b3, b4⟩ := hB
  rw [ht] at b2
  obtain ⟨g1, g2⟩ := lw_new hP hD hk1 lw_mkA hAA b2 b4
  rw [hw.1]
  exact k H1 locs1 b1 g1 g2 hS1
theorem lw_callL (C : lwC p s m args c b L xs fo aw v at_ τ D tys) {lo hi y s0 idx n : Nat} {Cn : String} {off : Nat → Nat → Nat} {ν : Nat → Nat} {μ μ' : mj_M} {Y : va_W} {as : List mj_V} {x : Int} (hW : (mk_cells lo hi).Nodup ∧ mk_closed lo hi = true ∧ hi ≤ 63) (hm : mk_vm μ) (hk : kc 60 y (v_r s0 0 :: as) μ = some (some (v_l x), μ')) (has : ∀ w ∈ as, mk_vv lo hi w) (hn : as.length = n) (hs0 : lo ≤ s0 ∧ s0 < hi ∧ 0 < mk_cnt s0) (hcl : ∃ ci cn sl, mj_srt mk_LY s0 = (0, ci, cn, sl) ∧ ∃ qc, vwCl[ci]? = some qc ∧ qc.1 = Cn) (hw : lwWd idx y n Cn)
    (hP : va_P D vwCl (mk_ws lo hi (fun s => τ (kzkA s)) (kzad ν off aw at_) μ ++ Y) H) (hD : va_D (lwAd s) (mk_ws lo hi (fun s => τ (kzkA s)) (kzad ν off aw at_) μ ++ Y)) (hS : va_S (lwAd s) s.heap H locs) (hls : ls.size = 4) (hcat : (rest.map fun v => v.category).sum ≤ 8) (hdg : decode code pc = .ok (.invokevirtual idx, 3)) (hf : cells ≤ room_1.cells ∧ slots ≤ room_1.slots)
    (k : ∀ (H1 : Heap) (locs1 : List Loc), mk_vm μ' → va_P D vwCl (mk_ws lo hi (fun s => τ (kzkA s)) (kzad ν off aw at_) μ' ++ Y) H1 → va_D (lwAd s) (mk_ws lo hi (fun s => τ (kzkA s)) (kzad ν off aw at_) μ' ++ Y) → va_S (lwAd s) s.heap H1 locs1 → W p l e room_1 s m args below meth c H1 locs1 cells slots Q (F0 m (pc + 3) ls (.long (Int64.ofInt x) :: rest))) :
    W p l e room_1 s m args below meth c H locs cells slots Q (F0 m pc ls ((as.map (mk_ev (kzad ν off aw at_))).reverse ++ .ref (kzad ν off aw at_ s0 0) :: rest)) := by
  obtain ⟨hAA, run⟩ := lw_call (l := l) (e := e) (below := below) (meth := meth) C hW hm hk has hn hs0 hcl hw hP hD hS hls hcat hdg hf
  refine va_calll (a := (Value.ref (kzad ν off aw at_ s0 0) :: as.map (mk_ev (kzad ν off aw at_))).toArray) (S := Unit) (post := fun w _ => w = Int64.ofInt x ∧ mj_n64 x) (B := fun _ => mk_B lo hi (fun s => τ (kzkA s)) (kzad ν off aw at_) D tys μ' H.size) (A1 := mk_A lo hi (kzad ν off aw at_) H.size) run hS (fun x _ h => hAA x h) hAA (fun r u t H1 locs1 ht hvm hw hB hz1 hk1 hS1 => ?_)
  obtain ⟨b1, b2, b3, b4⟩ := hB
  rw [ht] at b2
  obtain ⟨g1, g2⟩ := lw_new hP hD hk1 lw_mkA hAA b2 b4
  rw [hw.1]
  exact k H1 locs1 b1 g1 g2 hS1
theorem lwA_vv {lo hi : Nat} {v : Nat → Int} (h : ∀ i, mj_n32 (v i)) : ∀ (n j : Nat), ∀ w ∈ lwA v j n, mk_vv lo hi w
  | 0, _, w, hw => by cases hw
  | n + 1, j, w, hw => by
    rcases List.mem_cons.mp hw with g | g
    · rw [g]; exact h j
    · exact lwA_vv h n (j + 1) w g
theorem lwA_len {v : Nat → Int} : ∀ (n j : Nat), (lwA v j n).length = n
  | 0, _ => rfl
  | n + 1, j => by
    show (lwA v (j + 1) n).length + 1 = n + 1
    rw [lwA_len n (j + 1)]
theorem lw_n32 (x : Int32) : mj_n32 x.toInt := by
  unfold mj_n32
  have h1 := Int32.le_toInt x
  have h2 := Int32.toInt_lt x
  omega
/-- both sides are asked, and answer alike -/
theorem lw_case (C : lwC p s m args c b L xs fo aw v at_ τ D tys) {i k P a b' p1 p2 qc qr : Nat} {off : Int} {νC νR : Nat → Nat} {μ ρ : mj_M} (hk : k < 44) (hck : lwCk k P a b' p1 p2 off) (hI : Inv μ ρ) (hmC : mk_vm μ) (hmR : mk_vm ρ) (hC : νC (offC 0 0) = qc) (hR : νR (offR 33 0) = qr) (hl : lv_has ls 4 [(3, .int (nI i)), (2, .ref qr), (1, .ref qc), (0, .ref b)]) (hi : i + 7 ≤ L)
    (hP : va_P D vwCl (mk_ws 0 33 (fun s => τ (kzkA s)) (kzad νC offC aw at_) μ ++ mk_ws 33 63 (fun s => τ (kzkA s)) (kzad νR offR aw at_) ρ) H) (hD : va_D (lwAd s) (mk_ws 0 33 (fun s => τ (kzkA s)) (kzad νC offC aw at_) μ ++ mk_ws 33 63 (fun s => τ (kzkA s)) (kzad νR offR aw at_) ρ)) (hS : va_S (lwAd s) s.heap H locs) (hf : cells ≤ room_1.cells ∧ slots ≤ room_1.slots)
    (K : ∀ (μ' ρ' : mj_M) (H1 : Heap) (locs1 : List Loc), Inv μ' ρ' → mk_vm μ' → mk_vm ρ' → va_P D vwCl (mk_ws 0 33 (fun s => τ (kzkA s)) (kzad νC offC aw at_) μ' ++ mk_ws 33 63 (fun s => τ (kzkA s)) (kzad νR offR aw at_) ρ') H1 → va_D (lwAd s) (mk_ws 0 33 (fun s => τ (kzkA s)) (kzad νC offC aw at_) μ' ++ mk_ws 33 63 (fun s => τ (kzkA s)) (kzad νR offR aw at_) ρ') → va_S (lwAd s) s.heap H1 locs1 → W p l e room_1 s m args below meth c H1 locs1 cells slots Q (F0 m 1630 ls [])) :
    W p l e room_1 s m args below meth c H locs cells slots Q (F0 m P ls []) := by
  obtain ⟨d1, a1, d2, d3, a2, d4, hend, hn6, w1, w2⟩ := hck
  have C' := C
  obtain ⟨hfx, hX, hbl, hL, hK, hT, hE⟩ := C'
  have hx := hfx.1
  have hb := hfx.2.1
  have hbA : ¬ lwAd s b := Nat.not_le.mpr hbl
  have hv : ∀ t, mj_n32 ((fun t => (xs (i + 1 + t)).toInt) t) := fun t => lw_n32 _
  have hop := op_all 0 k hk (fun t => (xs (i + 1 + t)).toInt) hv hI
  have eC : kzad νC offC aw at_ 0 0 = qc := by rw [kzad_lt (by decide)]; exact hC
  have eR : kzad νR offR aw at_ 33 0 = qr := by rw [kzad_lt (by decide)]; exact hR
  have hcC : ∃ ci cn sl, mj_srt mk_LY 0 = (0, ci, cn, sl) ∧ ∃ qc, vwCl[ci]? = some qc ∧ qc.1 = RX7 := ⟨7, _, _, rfl, _, rfl, rfl⟩
  have hcR : ∃ ci cn sl, mj_srt mk_LY 33 = (0, ci, cn, sl) ∧ ∃ qc, vwCl[ci]? = some qc ∧ qc.1 = RX8 := ⟨8, _, _, rfl, _, rfl, rfl⟩
  refine lv_aload_n (x := qc) hx hb d1 rfl (lv_at hl 2 rfl) ?_
  refine lw_args hx hb hX hbl hbA hS hL hl _ 1 _ p1 _ a1 (by omega) ?_
  rw [← lwVs_A (ad := kzad νC offC aw at_), ← eC]
  unfold lwOp lwR at hop
  rcases hend with ⟨hkk, d5, d6⟩ | ⟨hkk, d5, d6, d7⟩
  · rw [if_neg hkk] at hop
    obtain ⟨x, μ', ρ', k1, k2, hI'⟩ := hop
    refine lw_callI C ⟨mk_nd_C, mk_closed_C, by decide⟩ hmC k1 (lwA_vv hv _ _) (lwA_len _ _) ⟨by decide, by decide, by decide⟩ hcC w1 hP hD hS hl.1 (by decide) d2 hf (fun H1 locs1 hm1 hP1 hD1 hS1 => ?_)
    refine lv_aload_n (x := qr) hx hb d3 rfl (lv_at hl 1 rfl) ?_
    refine lw_args hx hb hX hbl hbA hS1 hL hl _ 1 _ p2 _ a2 (by omega) ?_
    rw [← lwVs_A (ad := kzad νR offR aw at_), ← eR]
    refine lw_callI C ⟨mk_nd_R, mk_closed_R, by decide⟩ hmR k2 (lwA_vv hv _ _) (lwA_len _ _) ⟨by decide, by decide, by decide⟩ hcR w2 ((lw_sR hP1).app (lw_sL hP1)) (lw_swap hD1) hS1 hl.1 (show (1 : Nat) ≤ 8 by decide) d4 hf (fun H2 locs2 hm2 hP2 hD2 hS2 => ?_)
    exact lv_icmp_eq hx hb d5 d6 (fun _ => K μ' ρ' H2 locs2 hI' hm1 hm2 ((lw_sR hP2).app (lw_sL hP2)) (lw_swap hD2) hS2) (fun g => absurd rfl g)
  · rw [if_pos hkk] at hop
    obtain ⟨x, μ', ρ', k1, k2, hI'⟩ := hop
    refine lw_callL C ⟨mk_nd_C, mk_closed_C, by decide⟩ hmC k1 (lwA_vv hv _ _) (lwA_len _ _) ⟨by decide, by decide, by decide⟩ hcC w1 hP hD hS hl.1 (by decide) d2 hf (fun H1 locs1 hm1 hP1 hD1 hS1 => ?_)
    refine lv_aload_n (x := qr) hx hb d3 rfl (lv_at hl 1 rfl) ?_
    refine lw_args hx hb hX hbl hbA hS1 hL hl _ 1 _ p2 _ a2 (by omega) ?_
    rw [← lwVs_A (ad := kzad νR offR aw at_), ← eR]
    refine lw_callL C ⟨mk_nd_R, mk_closed_R, by decide⟩ hmR k2 (lwA_vv hv _ _) (lwA_len _ _) ⟨by decide, by decide, by decide⟩ hcR w2 ((lw_sR hP1).app (lw_sL hP1)) (lw_swap hD1) hS1 hl.1 (show (2 : Nat) ≤ 8 by decide) d4 hf (fun H2 locs2 hm2 hP2 hD2 hS2 => ?_)
    refine W.lcmp hx hb d5 ?_
    have e0 : lg_cmp (Int64.ofInt x) (Int64.ofInt x) = 0 := by simp [lg_cmp]
    rw [e0]
    exact lv_if_eq hx hb d6 d7 (fun _ => K μ' ρ' H2 locs2 hI' hm1 hm2 ((lw_sR hP2).app (lw_sL hP2)) (lw_swap hD2) hS2) (fun g => absurd rfl g)
end LC
