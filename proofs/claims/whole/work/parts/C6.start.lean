-- ===== YOUR PART BEGINS =====
set_option maxHeartbeats 4000000 in
theorem whole_start {p : Program} {e : Env} {s : State} {m : MethodId} {below : List Frame} {meth : Method} {c : Code} (l : Launch) (hflags : l.flags = flags0) {b L : Nat} {xs : Nat → Int32} (hL : L ≤ 3584) (C0 : lw_At p s m meth c b L xs) : W p l e room_1 s m #[Value.ref b] below meth c s.heap [] 0 0 (lw_Z below #[Value.ref b] s) (entryFrame m ([Value.ref b] : List Value).toArray 4) := by
  obtain ⟨fo, aw, v, a7, v7, at_, τ, D, tys, hT, hK, hEnv, hEx⟩ := lw_env C0
  obtain ⟨hx, hb, hr, hml, hown, hts, hX, hbl, hlk, hgv⟩ := C0
  have htb : ∀ w ∈ mk_tb, w.before #[Value.ref b] s = true := fun w h => hts w (mk_sub w h)
  have hfx : CallFix p m c code 4 s #[Value.ref b] mk_tb R_law := ⟨hx, hb, hml, hown, htb⟩
  have hms := mem_start 0
  obtain ⟨x0, μ1, ρ1, k1, k2, hI⟩ := hms
  have hA : ∀ q, s.heap.size ≤ q → lwAd s q := fun _ h => h
  have hl := lv_entry ([.ref b]) (n := 4) (Nat.le_of_ble_eq_true rfl)
  rw [lg_entry_eq]
  generalize (lg_sl ([.ref b]) ++ List.replicate (4 - (lg_sl ([.ref b])).length) Slot.unset).toArray = ls at hl ⊢
  have hl : lv_has ls 4 [(0, .ref b)] := hl
  have hP0 : va_P D vwCl [] s.heap := fun k a1 h => (by cases h)
  have hD0 : va_D (lwAd s) [] := ⟨fun i j a1 a2 h => (by cases h), fun k a1 h => (by cases h)⟩
  -- new NumbersCalled()
  refine va_new (own := R_law) (C := RX7) (T := TX7) (N := 11) (ci := 7) (index := 7) (ws := []) hx hb htb (mk_cls (ci := 7) rfl).1 tyX7 tyX7_ok hown (htb _ (mk_t1 16 rfl rfl)) (htb _ (mk_t1 17 rfl rfl)) (htb _ (mk_t1 1 rfl rfl)) hK hP0 hD0 va_S.rf hA rfl (fs := kzz7.map (kzV (fun _ => 0))) (by decide +kernel) (by decide) (by decide) (by decide +kernel : decode code 0 = .ok (.new 7, 3)) (fun q H1 hP1 hD1 hS1 => ?_)
  refine lv_dup hx hb (by decide +kernel : decode code (0 + 3) = .ok (.dup, 1)) rfl ?_
  obtain ⟨hAA, hbp⟩ := lw_preB (X := []) (kzExC_mv fo aw v a7 v7 at_) (by decide) hP1 hD1 hS1 hK hEnv hEx
  have run := js_runI (l := l) (e := e) (below := below) (meth := meth) (R := room_1) (H := H1) (locs := []) (cells := 0 + 1) (slots := 0 + 11) (ls := ls) (rest := [.ref q]) hfx (kzcC (l := l) (D := D) hT (fo := fo) (aw := aw) (v := v) (a7 := a7) (v7 := v7) (at_ := at_) k1 q H1.size) rfl rfl (mk_t1 18 rfl rfl) (mk_t1 19 rfl rfl) (mk_t1 1 rfl rfl) (mk_t1 20 rfl rfl) rfl ⟨by decide, by decide, by decide +kernel⟩ ⟨by decide, by decide⟩ hbp hl.1 (show (1 : Nat) ≤ 8 by decide) (by decide +kernel : decode code (0 + 3 + 1) = .ok (.invokespecial 9, 3)) ⟨by decide, by decide⟩
  refine va_callv (a := #[Value.ref q]) run hS1 (fun x _ hx => hAA x hx) hAA (fun νC t H2 locs2 ht hvm hpq hB hz2 hk2 hS2 => ?_)
  obtain ⟨m1, hP2, hD2⟩ := hB
  rw [ht] at hP2
  have J := kz_PD (X := []) hP1 hD1 hk2 (fun x hx => hx) hAA hP2 hD2
  rw [List.nil_append] at J
  have hpq : νC (offC 0 0) = q := hpq
  refine lv_astore_n (lv' := [(1, .ref q), (0, .ref b)]) hx hb (by decide +kernel : decode code (0 + 3 + 1 + 3) = .ok (.astore_n 1, 1)) rfl hl (by decide) rfl (fun ls1 hl1 => ?_)
  -- new NumbersCalledModel()
  refine va_new (own := R_law) (C := RX8) (T := TX8) (N := 54) (ci := 8) (index := 10) hx hb htb (mk_cls (ci := 8) rfl).1 tyX8 tyX8_ok hown (htb _ (mk_t4 155 rfl rfl)) (htb _ (mk_t4 156 rfl rfl)) (htb _ (mk_t1 13 rfl rfl)) hK J.1 J.2 hS2 hA rfl (fs := kzz8.map (kzV (fun _ => 0))) (by decide +kernel) (by decide) (by decide) (by decide +kernel : decode code (0 + 3 + 1 + 3 + 1) = .ok (.new 10, 3)) (fun q2 H3 hP3 hD3 hS3 => ?_)
  refine lv_dup hx hb (by decide +kernel : decode code (0 + 3 + 1 + 3 + 1 + 3) = .ok (.dup, 1)) rfl ?_
  obtain ⟨hAA3, hbp3⟩ := lw_preB (kzExR_mv fo aw v at_) (by decide) hP3 hD3 hS3 hK hEnv hEx.1
  have run2 := js_runI (l := l) (e := e) (below := below) (meth := meth) (R := room_1) (H := H3) (locs := locs2) (cells := 0 + 1 + 88 + 1) (slots := 0 + 11 + 2119 + 54) (ls := ls1) (rest := [.ref q2]) hfx (kzcR (l := l) (D := D) hT (fo := fo) (aw := aw) (v := v) (at_ := at_) k2 q2 H3.size) rfl rfl (mk_t4 157 rfl rfl) (mk_t4 158 rfl rfl) (mk_t1 13 rfl rfl) (mk_t4 159 rfl rfl) rfl ⟨by decide, by decide, by decide +kernel⟩ ⟨by decide, by decide⟩ hbp3 hl1.1 (show (1 : Nat) ≤ 8 by decide) (by decide +kernel : decode code (0 + 3 + 1 + 3 + 1 + 3 + 1) = .ok (.invokespecial 12, 3)) ⟨by decide, by decide⟩
  refine va_callv (a := #[Value.ref q2]) run2 hS3 (fun x _ hx => hAA3 x hx) hAA3 (fun νR t4 H4 locs4 ht4 hvm4 hpq4 hB4 hz4 hk4 hS4 => ?_)
  obtain ⟨m4, hP4, hD4⟩ := hB4
  rw [ht4] at hP4
  have J4 := kz_PD hP3 hD3 hk4 (fun x hx => hx) hAA3 hP4 hD4
  have hpq4 : νR (offR 33 0) = q2 := hpq4
  refine lv_astore_n (lv' := [(2, .ref q2), (1, .ref q), (0, .ref b)]) hx hb (by decide +kernel : decode code (0 + 3 + 1 + 3 + 1 + 3 + 1 + 3) = .ok (.astore_n 2, 1)) rfl hl1 (by decide) rfl (fun ls2 hl2 => ?_)
  refine lv_iconst (v := nI 0) hx hb (by decide +kernel : decode code (0 + 3 + 1 + 3 + 1 + 3 + 1 + 3 + 1) = .ok (.iconst 0, 1)) (by decide) ?_
  refine lv_istore_n (lv' := [(3, .int (nI 0)), (2, .ref q2), (1, .ref q), (0, .ref b)]) hx hb (by decide +kernel : decode code (0 + 3 + 1 + 3 + 1 + 3 + 1 + 3 + 1 + 1) = .ok (.istore_n 3, 1)) rfl hl2 (by decide) rfl (fun ls3 hl3 => ?_)
  exact lw_loop (fo := fo) (aw := aw) (v := v) (at_ := at_) ⟨hfx, hX, hbl, hL, hK, hT, hEx.1⟩ hr hlk hpq hpq4 L 0 (by omega) (by omega) μ1 ρ1 H4 locs4 ls3 hl3 hI m1 m4 J4.1 J4.2 hS4
-- ===== YOUR PART ENDS =====
