/-! THE SMALL MACHINE IS TRUE TO THE MACHINE -/
def mk_A (lo hi : Nat) (ad : mk_AD) (sz : Nat) : Nat → Prop := fun q => (∃ c ∈ mk_cells lo hi, q = ad c.1 c.2) ∨ sz ≤ q
def mk_wy (y : Nat) : List Cond := Cond.code (mk_mi y).1 (mk_mi y).2.1 (mk_mi y).2.2.2.2.1 (mk_mi y).2.2.1 :: mk_tb
def mk_rm (d : Nat) : Room := { frames := d + 8, cells := 0, slots := 0, locals := 64 * d + 400 }
def mk_Pre (XS : (Nat → Prop) → State → Prop) (lo hi : Nat) (cA : Nat → ClassId) (ad : mk_AD) (D : va_G) (tys : List (ClassId × FieldType)) (as : List mj_V) (μ : mj_M) (sz : Nat) : Array Value → State → Prop :=
  va_Pc (as.map (mk_ev ad)) (fun U => U.heap.size = sz ∧ va_P D vwCl (mk_ws lo hi cA ad μ) U.heap ∧ va_K D vwCl tys U ∧ va_D (mk_A lo hi ad sz) (mk_ws lo hi cA ad μ) ∧ mk_Ext XS ad (mk_A lo hi ad sz) U)
def mk_B (lo hi : Nat) (cA : Nat → ClassId) (ad : mk_AD) (D : va_G) (tys : List (ClassId × FieldType)) (μ : mj_M) (sz : Nat) (t : State) : Prop := mk_vm μ ∧ va_P D vwCl (mk_ws lo hi cA ad μ) t.heap ∧ va_K D vwCl tys t ∧ va_D (mk_A lo hi ad sz) (mk_ws lo hi cA ad μ)
def mk_Post (lo hi : Nat) (cA : Nat → ClassId) (ad : mk_AD) (D : va_G) (tys : List (ClassId × FieldType)) (r : Option mj_V × mj_M) (sz : Nat) : Array Value → State → Outcome → State → Prop := match r with
  | (none, μ) => va_Qv (fun _ : Unit => True) (fun _ => mk_B lo hi cA ad D tys μ sz) (mk_A lo hi ad sz)
  | (some (.inl x), μ) => va_Qi (fun v (_ : Unit) => v = Int32.ofInt x ∧ mj_n32 x) (fun _ => mk_B lo hi cA ad D tys μ sz) (mk_A lo hi ad sz)
  | (some (.inr (.inl x)), μ) => va_Ql (fun v (_ : Unit) => v = Int64.ofInt x ∧ mj_n64 x) (fun _ => mk_B lo hi cA ad D tys μ sz) (mk_A lo hi ad sz)
  | _ => fun _ _ _ _ => False
def mk_XSc (XS : (Nat → Prop) → State → Prop) : Prop := ∀ (A B : Nat → Prop) (u U : State), u.WarmedH U.vm → (∀ a : Nat, a < u.heap.size → ¬ A a → U.heap[a]? = u.heap[a]?) → (∀ q, B q → A q) → XS A u → XS B U
theorem mk_Ext_mv {XS : (Nat → Prop) → State → Prop} {ad : mk_AD} {A B : Nat → Prop} {u U : State} (hX : mk_XSc XS) (hW : u.WarmedH U.vm) (hq : ∀ a : Nat, a < u.heap.size → ¬ A a → U.heap[a]? = u.heap[a]?) (hAB : ∀ q, B q → A q) (h : mk_Ext XS ad A u) : mk_Ext XS ad B U :=
  ⟨fun q hm => va_Nw.warmM hW (h.1 q hm), ((h.2.1.moved hW.alike).kept hq).narrow hAB, ((h.2.2.1.moved hW.alike).kept hq).narrow hAB, hX A B u U hW hq hAB h.2.2.2⟩
theorem mk_A_le {lo hi : Nat} {ad : mk_AD} {s1 s2 : Nat} (h : s1 ≤ s2) : ∀ q, mk_A lo hi ad s2 q → mk_A lo hi ad s1 q := by
  rintro q (h1 | h1)
  · exact Or.inl h1
  · exact Or.inr (Nat.le_trans h h1)
theorem mk_D_A {lo hi : Nat} {cA : Nat → ClassId} {ad : mk_AD} {A : Nat → Prop} {μ : mj_M} {sz : Nat} (h : va_D A (mk_ws lo hi cA ad μ)) : va_D (mk_A lo hi ad sz) (mk_ws lo hi cA ad μ) := by
  refine h.weaken fun k q hk _ => ?_
  unfold mk_ws at hk
  rw [List.getElem?_map] at hk
  cases hc : (mk_cells lo hi)[k]? with
  | none => rw [hc] at hk; cases hk
  | some c => rw [hc] at hk; cases hk; exact Or.inl ⟨c, List.mem_of_getElem? hc, rfl⟩
theorem mk_okall {y : Nat} (h : y < 217) : mk_ckm y = true := by
  have key : ∀ (a n : Nat), (List.range' a n).all mk_ckm = true → a ≤ y → y < a + n → mk_ckm y = true := fun a n q h1 h2 => List.all_eq_true.mp q y (List.mem_range'.mpr ⟨y - a, by omega, by omega⟩)

  by_cases h0 : y < 16
  · exact key 0 16 mk_ok0 (by omega) (by omega)
  by_cases h1 : y < 32
  · exact key 16 16 mk_ok1 (by omega) (by omega)
  by_cases h2 : y < 48
  · exact key 32 16 mk_ok2 (by omega) (by omega)
  by_cases h3 : y < 64
  · exact key 48 16 mk_ok3 (by omega) (by omega)
  by_cases h4 : y < 80
  · exact key 64 16 mk_ok4 (by omega) (by omega)
  by_cases h5 : y < 96
  · exact key 80 16 mk_ok5 (by omega) (by omega)
  by_cases h6 : y < 112
  · exact key 96 16 mk_ok6 (by omega) (by omega)
  by_cases h7 : y < 128
  · exact key 112 16 mk_ok7 (by omega) (by omega)
  by_cases h8 : y < 144
  · exact key 128 16 mk_ok8 (by omega) (by omega)
  by_cases h9 : y < 160
  · exact key 144 16 mk_ok9 (by omega) (by omega)
  by_cases h10 : y < 176
  · exact key 160 16 mk_ok10 (by omega) (by omega)
  by_cases h11 : y < 192
  · exact key 176 16 mk_ok11 (by omega) (by omega)
  by_cases h12 : y < 208
  · exact key 192 16 mk_ok12 (by omega) (by omega)
  by_cases h13 : y < 217
  · exact key 208 9 mk_ok13 (by omega) (by omega)
  omega
theorem mk_len : mk_PG.length = 217 := by decide +kernel
theorem mk_lenM : mk_MI.length = 217 := by decide +kernel
theorem mk_mi_in {y : Nat} (h : y < 217) : mk_mi y ∈ mk_MI := by
  unfold mk_mi
  rw [mj_nth_eq]
  cases hq : mk_MI[y]? with
  | none => rw [List.getElem?_eq_none_iff, mk_lenM] at hq; omega
  | some q => exact List.mem_of_getElem? hq
theorem mk_y_lt {y : Nat} {q : Nat × Nat × List (List Bool × List mj_I)} (h : mj_nth mk_PG y = some q) : y < 217 := by
  have := mj_nth_lt _ _ _ h
  rw [mk_len] at this
  exact this
def mk_mc (q : mk_T7) : Bool := decide ((parseMethodDescriptor q.1.desc).map (fun d => d.parameters.length) = some (match q.2.2.2.2.2.2 with | true => q.2.2.2.2.2.1 | false => q.2.2.2.2.2.1 - 1)) && decide (q.1.cls ≠ "java/lang/invoke/MethodHandle" ∧ q.1.cls ≠ "java/lang/invoke/VarHandle") && decide (q.1.cls = mk_cn q.2.2.2.1) && Nat.blt q.2.2.2.1 9 && plainName q.1.cls && Nat.ble q.2.2.2.2.1 40
theorem mk_MIc : mk_MI.all mk_mc = true := by decide +kernel
theorem mk_mi_c {y : Nat} (h : y < 217) : (parseMethodDescriptor (mk_mi y).1.desc).map (fun d => d.parameters.length) = some (match (mk_mi y).2.2.2.2.2.2 with | true => (mk_mi y).2.2.2.2.2.1 | false => (mk_mi y).2.2.2.2.2.1 - 1) ∧ ((mk_mi y).1.cls ≠ "java/lang/invoke/MethodHandle" ∧ (mk_mi y).1.cls ≠ "java/lang/invoke/VarHandle") ∧ (mk_mi y).1.cls = mk_cn (mk_mi y).2.2.2.1 ∧ (mk_mi y).2.2.2.1 < 9 ∧ plainName (mk_mi y).1.cls = true ∧ (mk_mi y).2.2.2.2.1 ≤ 40 := by
  have := List.all_eq_true.mp mk_MIc _ (mk_mi_in h)
  unfold mk_mc at this
  simp only [Bool.and_eq_true, decide_eq_true_eq, Nat.blt_eq, Nat.ble_eq] at this
  exact ⟨this.1.1.1.1.1, this.1.1.1.1.2, this.1.1.1.2, this.1.1.2, this.1.2, this.2⟩
theorem mk_wyw {y : Nat} (h : y < 217) : ∀ w ∈ mk_wy y, w ∈ mk_tb := by
  intro w hw
  rcases List.mem_cons.mp hw with rfl | hw
  · exact mk_MIw _ (mk_mi_in h)
  · exact hw
theorem mk_gin {ws : List Cond} (h : ∀ w ∈ ws, w ∈ mk_tb) : GoodIn mk_tb ws := fun w hw => ⟨h w hw, good_of_word (mk_good w (h w hw))⟩
theorem mk_ini {y : Nat} (h : y < 217) : Cond.initialized (mk_mi y).1.cls ∈ mk_tb := by
  rw [(mk_mi_c h).2.2.1]
  have h9 := (mk_mi_c h).2.2.2.1
  unfold mk_cn
  rw [mj_nth_eq]
  cases hq : mk_CN[(mk_mi y).2.2.2.1]? with
  | none => rw [List.getElem?_eq_none_iff] at hq; exact absurd (show 9 ≤ _ from hq) (by omega)
  | some q => exact mk_CNi q (List.mem_of_getElem? hq)
theorem mk_cl_cn {ci : Nat} (h : ci < 9) : ∃ q : vw_C, vwCl[ci]? = some q ∧ q.1 = mk_cn ci := by
  match ci, h with
  | 0, _ => exact ⟨_, rfl, rfl⟩
  | 1, _ => exact ⟨_, rfl, rfl⟩
  | 2, _ => exact ⟨_, rfl, rfl⟩
  | 3, _ => exact ⟨_, rfl, rfl⟩
  | 4, _ => exact ⟨_, rfl, rfl⟩
  | 5, _ => exact ⟨_, rfl, rfl⟩
  | 6, _ => exact ⟨_, rfl, rfl⟩
  | 7, _ => exact ⟨_, rfl, rfl⟩
  | 8, _ => exact ⟨_, rfl, rfl⟩
section MR
variable {p : Program} {l : Launch} {e : Env} {R : Room} {s : State} {m : MethodId} {args : Array Value} {below : List Frame} {meth : Method} {c : Code} {Q : State → Prop} {XS : (Nat → Prop) → State → Prop} {lo hi : Nat} {cA : Nat → ClassId} {ad : mk_AD} {D : va_G} {tys : List (ClassId × FieldType)} {A : Nat → Prop} {own : Nat} {bytes : ByteArray} {n : Nat} {ret : Option FieldType} {d : Nat}
variable {pc : Nat} {ls : mj_L} {st : List mj_V} {μ : mj_M}
theorem ms_run (C : mk_Cx p R s m args meth c XS lo hi cA ad D tys (mk_A lo hi ad s.heap.size) own bytes n ret (d + 1)) (hX : mk_XSc XS) {idx a b k kind : Nat} {stat : Bool} (hcc : mk_cc own idx a b k kind stat = true) (hkind : (kind = 0 ∧ stat = false) ∨ (kind = 1 ∧ stat = true) ∨ (kind = 2 ∧ stat = true ∧ (own, idx, a) ∈ mk_NL)) (hd : decode bytes pc = .ok (if stat then .invokestatic idx else .invokevirtual idx, 3))
    {as rst : List mj_V} {r : Option mj_V × mj_M} {H : Heap} {locs : List Loc} {Ls : Array Slot} (hfit : mj_fit mk_LY mk_PG a as = true) (hlen : as.length = b) (hc : mj_cat rst ≤ 8)
    (hM : Met l (mk_mi a).1 (mk_wy a) (mk_rm d) (mk_Pre XS lo hi cA ad D tys as μ H.size) (mk_Post lo hi cA ad D tys r H.size) 0 0 (mk_A lo hi ad H.size))
    (hR : mk_Rel s lo hi cA ad D (mk_A lo hi ad s.heap.size) n ls (as.reverse ++ rst) μ H locs Ls) :
    va_Run p l e R s m args below meth c H locs 0 0 0 0 (F0 m pc Ls ((as.reverse ++ rst).map (mk_ev ad))) (rst.map (mk_ev ad)) (mk_Post lo hi cA ad D tys r H.size (as.map (mk_ev ad)).toArray) (mk_A lo hi ad H.size) := by
  obtain ⟨h1, h2, h3, h4, h5, h6, h7⟩ := hR
  have hy : a < 217 := by
    unfold mj_fit at hfit
    cases hq : mj_nth mk_PG a with
    | none => rw [hq] at hfit; cases hfit
    | some q => exact mk_y_lt hq
  obtain ⟨c1, c2, c3, c4, c5, c6⟩ := mk_mi_c hy
  unfold mk_cc at hcc
  simp only [Bool.and_eq_true, beq_iff_eq, List.contains_iff_mem, Nat.beq_eq] at hcc
  obtain ⟨⟨⟨k1, k2⟩, k3⟩, k4⟩ := hcc
  have hcw := mk_CLw _ k1
  have hblind : FrameBlind (mk_Pre XS lo hi cA ad D tys as μ H.size) := by
    intro a' U g mk q
    obtain ⟨q0, q1, q2, q3, q4, q5⟩ := q
    exact ⟨q0, q1, q2, va_K.moved (u := U) (U := U.calling g mk a') (Vm.Alike.refl U.vm) q3, q4, mk_Ext_mv (u := U) (U := U.calling g mk a') hX (State.WarmedH.refl U) (fun _ _ _ => rfl) (fun _ h => h) q5⟩
  have hpre : ∀ U : State, U.heap = H → s.WarmedH U.vm → mk_Pre XS lo hi cA ad D tys as μ H.size (as.map (mk_ev ad)).toArray U := by
    intro U hU hW
    refine ⟨rfl, by rw [hU], by rw [hU]; exact h5, va_K.moved hW.alike C.2.2.2.2.2.2.2.1, mk_D_A h6, ?_⟩
    exact mk_Ext_mv hX hW (fun a' ha hn => by rw [hU]; exact h7.2.1 a' ha hn) (mk_A_le h7.1) C.2.2.2.2.2.2.2.2.2.1
  have hst : (as.reverse ++ rst).map (mk_ev ad) = (as.map (mk_ev ad)).reverse ++ rst.map (mk_ev ad) := by rw [List.map_append, List.map_reverse]
  have hroom : (mk_rm d).frames + 1 ≤ R.frames ∧ 8 + ((mk_mi a).2.2.2.2.1 + 11) + (mk_rm d).locals ≤ R.locals := by
    obtain ⟨r1, r2⟩ := C.2.2.2.2.2.2.2.2.2.2.2.2.2
    unfold mk_rm
    dsimp only
    omega
  have hcat : 2 * (F0 m pc Ls ((as.reverse ++ rst).map (mk_ev ad))).monitorRoom + ((rst.map (mk_ev ad)).map fun v => v.category).sum ≤ 8 := lv_room (by rw [mk_cats]; exact hc)
  have hfx : CallFix p m c bytes n s args mk_tb (mk_cn own) := ⟨C.1, C.2.1, C.2.2.2.1, C.2.2.2.2.1, C.2.2.2.2.2.1⟩
  rcases hkind with ⟨rfl, rfl⟩ | ⟨rfl, rfl⟩ | ⟨rfl, rfl, hnl⟩
  · -- of an object
    rw [k3] at c1
    have hrc : ∃ s' i as', as = .inr (.inr (s', i)) :: as' ∧ ∃ cn sl, mj_srt mk_LY s' = (0, (mk_mi a).2.2.2.1, cn, sl) := by
      unfold mj_fit at hfit
      have hok := mk_okall hy
      unfold mk_ckm at hok
      cases hq : mj_nth mk_PG a with
      | none => rw [hq] at hfit; cases hfit
      | some q =>
        obtain ⟨n', rc, bs⟩ := q
        rw [hq] at hfit hok
        simp only [Bool.and_eq_true, Nat.beq_eq, k3] at hok
        have hrc := hok.1.1.2
        subst hrc
        dsimp only at hfit
        split at hfit
        · unfold mj_rcv at hfit
          dsimp only at hfit
          split at hfit
          · rename_i s' i as'
            refine ⟨_, _, _, rfl, ?_⟩
            split at hfit
            · rename_i ci cn sl e
              have := Nat.eq_of_beq_eq_true hfit
              subst this
              exact ⟨_, _, e⟩
            · cases hfit
          · cases hfit
        · cases hfit
    obtain ⟨s', i, as', rfl, cn, sl, es⟩ := hrc
    have hr := h3 (.inr (.inr (s', i))) (List.mem_append_left _ (List.mem_reverse.mpr List.mem_cons_self))
    obtain ⟨g1, g2, g3⟩ := mk_vr_in hr (by rw [es]; exact Nat.zero_lt_succ 3)
    obtain ⟨j, hj⟩ := mk_cell_at g1 g2 g3
    have hat := mk_ws_at (cA := cA) (ad := ad) (μ := μ) hj
    have hen : mk_en cA ad μ s' i = .inr ((mk_mi a).2.2.2.1, mk_fs ad μ s' i 0 sl) := by simp only [mk_en, es]
    rw [hen] at hat
    obtain ⟨qc, hqc, hqn⟩ := mk_cl_cn c4
    have hrecv := va_recv C.2.2.2.2.2.2.2.1 h5 hqc hat
    rw [hqn, ← c3] at hrecv
    have hL : (as'.map (mk_ev ad)).length = b - 1 := by rw [List.length_map]; rw [List.length_cons] at hlen; omega
    refine va_runV (bytes := (mk_mi a).2.1) (maxL := (mk_mi a).2.2.2.2.1) (ret := (mk_mi a).2.2.1) (As := as'.map (mk_ev ad)) (b := ad s' i) (C := (mk_mi a).1.cls) (n := b - 1) hfx hM ?_ ⟨hblind, hrecv, hpre⟩ rfl hL h1.1.1 ?_ hcat hd ⟨Nat.zero_le _, Nat.zero_le _⟩
    · refine cwV (ws' := mk_tb) (b - 1) C.2.2.2.2.2.1 (mk_gin ?_) rfl rfl rfl ⟨rfl, c2.1, c2.2, by rw [c1, k2]⟩ hroom
      intro w hw
      unfold wsV at hw
      rcases List.mem_append.mp hw with hw | hw
      · rcases List.mem_cons.mp hw with rfl | hw
        · exact hcw _ List.mem_cons_self
        rcases List.mem_cons.mp hw with rfl | hw
        · exact hcw _ (List.mem_cons_of_mem _ List.mem_cons_self)
        rcases List.mem_cons.mp hw with rfl | hw
        · exact hcw _ (List.mem_cons_of_mem _ (List.mem_cons_of_mem _ List.mem_cons_self))
        rcases List.mem_cons.mp hw with rfl | hw
        · exact mk_ini hy
        · cases hw
      · exact mk_wyw hy w hw
    · rw [hst]
      show ((Value.ref (ad s' i)) :: as'.map (mk_ev ad)).reverse ++ _ = _
      rw [List.reverse_cons, List.append_assoc]
      rfl
  · -- static
    rw [k3] at c1
    have hL : (as.map (mk_ev ad)).length = b := by rw [List.length_map]; exact hlen
    refine va_runS (bytes := (mk_mi a).2.1) (maxL := (mk_mi a).2.2.2.2.1) (ret := (mk_mi a).2.2.1) (As := as.map (mk_ev ad)) (n := b) hfx hM ?_ ⟨hblind, hpre⟩ rfl hL h1.1.1 ?_ hcat hd ⟨Nat.zero_le _, Nat.zero_le _⟩
    · refine va_cwS (ws' := mk_tb) b C.2.2.2.2.2.1 (mk_gin ?_) rfl rfl rfl ⟨c2.1, c2.2, by rw [c1, k2]⟩ hroom
      intro w hw
      unfold va_wsS at hw
      rcases List.mem_append.mp hw with hw | hw
      · rcases List.mem_cons.mp hw with rfl | hw
        · exact hcw _ List.mem_cons_self
        rcases List.mem_cons.mp hw with rfl | hw
        · exact hcw _ (List.mem_cons_of_mem _ List.mem_cons_self)
        rcases List.mem_cons.mp hw with rfl | hw
        · exact mk_ini hy
        · cases hw
      · exact mk_wyw hy w hw
    · rw [hst]
  · -- static, of a nest mate
    rw [k3] at c1
    have hL : (as.map (mk_ev ad)).length = b := by rw [List.length_map]; exact hlen
    refine va_runSN (bytes := (mk_mi a).2.1) (maxL := (mk_mi a).2.2.2.2.1) (ret := (mk_mi a).2.2.1) (As := as.map (mk_ev ad)) (n := b) (host := RX7) hfx hM ⟨?_, C.2.2.2.2.2.1 _ (hcw _ List.mem_cons_self), trivial⟩ ⟨hblind, hpre⟩ rfl hL h1.1.1 ?_ hcat hd ⟨Nat.zero_le _, Nat.zero_le _⟩
    · exact va_cnB (ws' := mk_tb) b C.2.2.2.2.2.1 (mk_gin (mk_wyw hy)) rfl rfl rfl (C.2.2.2.2.2.2.2.2.2.1.1 _ hnl) (C.2.2.2.2.2.1 _ (mk_ini hy)) ⟨c2.1, c2.2, by rw [c1, k2]⟩ hroom
    · rw [hst]
end MR
