/-! printed by wip/whole/ctors.py: the constructors of the parts -/
def kzz0 : List kzU := [.inl 0, .inl 0, .inl 0, .inl 0]
noncomputable def kzo0 : List kzC := [(0, 0, [kI 0, kI 0, kI 1, kI 0])]
def kzr0 : Room := { frames := 1, cells := 0, slots := 0, locals := 20 }
noncomputable def kS0_0 : List kzC := [(0, 0, [kI 0, kI 0, kI 0, kI 0])]
noncomputable def kS0_1 : List kzC := [(0, 0, [kI 0, kI 0, kI 1, kI 0])]
theorem kzc0 {l : Launch} {τ : Nat → ClassId} {D : va_G} {tys : List (ClassId × FieldType)} (hT : kzT τ tys) : ∀ q sz : Nat, Met l yX0_init (js_ws yX0_init cX0_init 1 none) kzr0 (kzPre D tys 0 kzz0 q sz) (kzPost τ D q sz kzo0) 0 0 (kzA q sz) := by
  refine kz_met (own := 0) (n := 1) (by decide) rfl rfl (by decide) hT (by decide) ?_
  intro p e s m args below meth c ls q X L hr hlk
  show kzG _ _ _ _ _ _ _ _ _ _ _ _ _ _ _ _ 0 0 kS0_0 0 []
  refine kz_al0 X L (by decide +kernel) ?_
  refine kz_oi X L (idx := 3) (mk_t1 205 rfl rfl) (by decide +kernel) ⟨(Nat.le_of_ble_eq_true rfl), (Nat.le_of_ble_eq_true rfl)⟩ (by decide) ?_
  refine kz_al0 X L (by decide +kernel) ?_
  refine kz_k X (x := 0) (Or.inl ⟨(by decide +kernel), rfl⟩) ?_
  refine ky_put X (idx := 9) (ci := 0) (T := TX0) (Cn := RX0) (N := 4) (j := 0) (o := "NumbersCalled$Asker") (nm := "kind") (dsc := "I") (fin := false) (ty := .int) (cs2 := kS0_0) (pc2 := 9) rfl (by decide) (by decide +kernel) (mk_t1 206 rfl rfl) rfl (by decide +kernel) (fun _ => rfl) (fun _ => rfl) (by decide +kernel) rfl (by decide +kernel) ?_
  refine kz_al0 X L (by decide +kernel) ?_
  refine kz_k X (x := 0) (Or.inl ⟨(by decide +kernel), rfl⟩) ?_
  refine ky_put X (idx := 15) (ci := 0) (T := TX0) (Cn := RX0) (N := 4) (j := 1) (o := "NumbersCalled$Asker") (nm := "letter") (dsc := "I") (fin := false) (ty := .int) (cs2 := kS0_0) (pc2 := 14) rfl (by decide) (by decide +kernel) (mk_t1 208 rfl rfl) rfl (by decide +kernel) (fun _ => rfl) (fun _ => rfl) (by decide +kernel) rfl (by decide +kernel) ?_
  refine kz_al0 X L (by decide +kernel) ?_
  refine kz_k X (x := 1) (Or.inl ⟨(by decide +kernel), rfl⟩) ?_
  refine ky_put X (idx := 18) (ci := 0) (T := TX0) (Cn := RX0) (N := 4) (j := 2) (o := "NumbersCalled$Asker") (nm := "base") (dsc := "I") (fin := false) (ty := .int) (cs2 := kS0_1) (pc2 := 19) rfl (by decide) (by decide +kernel) (mk_t1 212 rfl rfl) rfl (by decide +kernel) (fun _ => rfl) (fun _ => rfl) (by decide +kernel) rfl (by decide +kernel) ?_
  refine kz_al0 X L (by decide +kernel) ?_
  refine kz_k X (x := 0) (Or.inl ⟨(by decide +kernel), rfl⟩) ?_
  refine ky_put X (idx := 21) (ci := 0) (T := TX0) (Cn := RX0) (N := 4) (j := 3) (o := "NumbersCalled$Asker") (nm := "more") (dsc := "I") (fin := false) (ty := .int) (cs2 := kS0_1) (pc2 := 24) rfl (by decide) (by decide +kernel) (mk_t1 216 rfl rfl) rfl (by decide +kernel) (fun _ => rfl) (fun _ => rfl) (by decide +kernel) rfl (by decide +kernel) ?_
  exact kz_ret X hr hlk (by decide +kernel)
def kzz2 : List kzU := [.inl 0, .inl 0]
noncomputable def kzo2 : List kzC := [(0, 2, [kI (-1), kI 2147483647])]
def kzr2 : Room := { frames := 1, cells := 0, slots := 0, locals := 20 }
noncomputable def kS2_0 : List kzC := [(0, 2, [kI 0, kI 0])]
noncomputable def kS2_1 : List kzC := [(0, 2, [kI (-1), kI 0])]
noncomputable def kS2_2 : List kzC := [(0, 2, [kI (-1), kI 2147483647])]
theorem kzc2 {l : Launch} {τ : Nat → ClassId} {D : va_G} {tys : List (ClassId × FieldType)} (hT : kzT τ tys) : ∀ q sz : Nat, Met l yX2_init (js_ws yX2_init cX2_init 1 none) kzr2 (kzPre D tys 2 kzz2 q sz) (kzPost τ D q sz kzo2) 0 0 (kzA q sz) := by
  refine kz_met (own := 2) (n := 1) (by decide) rfl rfl (by decide) hT (by decide) ?_
  intro p e s m args below meth c ls q X L hr hlk
  show kzG _ _ _ _ _ _ _ _ _ _ _ _ _ _ _ _ 0 0 kS2_0 0 []
  refine kz_al0 X L (by decide +kernel) ?_
  refine kz_oi X L (idx := 3) (mk_t1 190 rfl rfl) (by decide +kernel) ⟨(Nat.le_of_ble_eq_true rfl), (Nat.le_of_ble_eq_true rfl)⟩ (by decide) ?_
  refine kz_al0 X L (by decide +kernel) ?_
  refine kz_k X (x := -1) (Or.inl ⟨(by decide +kernel), rfl⟩) ?_
  refine ky_put X (idx := 9) (ci := 2) (T := TX2) (Cn := RX2) (N := 2) (j := 0) (o := "NumbersCalled$Least") (nm := "at") (dsc := "I") (fin := false) (ty := .int) (cs2 := kS2_1) (pc2 := 9) rfl (by decide) (by decide +kernel) (mk_t1 192 rfl rfl) rfl (by decide +kernel) (fun _ => rfl) (fun _ => rfl) (by decide +kernel) rfl (by decide +kernel) ?_
  refine kz_al0 X L (by decide +kernel) ?_
  refine kz_k X (x := 2147483647) (Or.inr (Or.inr (Or.inr ⟨15, (by decide +kernel), rfl, mk_t1 191 rfl rfl⟩))) ?_
  refine ky_put X (idx := 16) (ci := 2) (T := TX2) (Cn := RX2) (N := 2) (j := 1) (o := "NumbersCalled$Least") (nm := "much") (dsc := "I") (fin := false) (ty := .int) (cs2 := kS2_2) (pc2 := 15) rfl (by decide) (by decide +kernel) (mk_t1 194 rfl rfl) rfl (by decide +kernel) (fun _ => rfl) (fun _ => rfl) (by decide +kernel) rfl (by decide +kernel) ?_
  exact kz_ret X hr hlk (by decide +kernel)
def kzz3 : List kzU := [.inl 0, .inr none, .inr none, .inr none, .inl 0, .inr none, .inl 0, .inl 0, .inl 0, .inl 0, .inl 0, .inl 0]
noncomputable def kzo3 : List kzC := [(0, 3, [kI 0, kR 1, kR 2, kR 3, kI 0, kR 4, kI 0, kI 3, kI 120, kI 0, kI 0, kI 0]), (1, 4, []), (1, 4, []), (1, 4, []), (1, 16, [])]
def kzr3 : Room := { frames := 1, cells := 4, slots := 28, locals := 20 }
noncomputable def kS3_0 : List kzC := [(0, 3, [kI 0, kO, kO, kO, kI 0, kO, kI 0, kI 0, kI 0, kI 0, kI 0, kI 0])]
noncomputable def kS3_1 : List kzC := [(0, 3, [kI 0, kO, kO, kO, kI 0, kO, kI 0, kI 0, kI 0, kI 0, kI 0, kI 0]), (1, 4, [])]
noncomputable def kS3_2 : List kzC := [(0, 3, [kI 0, kR 1, kO, kO, kI 0, kO, kI 0, kI 0, kI 0, kI 0, kI 0, kI 0]), (1, 4, [])]
noncomputable def kS3_3 : List kzC := [(0, 3, [kI 0, kR 1, kO, kO, kI 0, kO, kI 0, kI 0, kI 0, kI 0, kI 0, kI 0]), (1, 4, []), (1, 4, [])]
noncomputable def kS3_4 : List kzC := [(0, 3, [kI 0, kR 1, kR 2, kO, kI 0, kO, kI 0, kI 0, kI 0, kI 0, kI 0, kI 0]), (1, 4, []), (1, 4, [])]
noncomputable def kS3_5 : List kzC := [(0, 3, [kI 0, kR 1, kR 2, kO, kI 0, kO, kI 0, kI 0, kI 0, kI 0, kI 0, kI 0]), (1, 4, []), (1, 4, []), (1, 4, [])]
noncomputable def kS3_6 : List kzC := [(0, 3, [kI 0, kR 1, kR 2, kR 3, kI 0, kO, kI 0, kI 0, kI 0, kI 0, kI 0, kI 0]), (1, 4, []), (1, 4, []), (1, 4, [])]
noncomputable def kS3_7 : List kzC := [(0, 3, [kI 0, kR 1, kR 2, kR 3, kI 0, kO, kI 0, kI 0, kI 0, kI 0, kI 0, kI 0]), (1, 4, []), (1, 4, []), (1, 4, []), (1, 16, [])]
noncomputable def kS3_8 : List kzC := [(0, 3, [kI 0, kR 1, kR 2, kR 3, kI 0, kR 4, kI 0, kI 0, kI 0, kI 0, kI 0, kI 0]), (1, 4, []), (1, 4, []), (1, 4, []), (1, 16, [])]
noncomputable def kS3_9 : List kzC := [(0, 3, [kI 0, kR 1, kR 2, kR 3, kI 0, kR 4, kI 0, kI 3, kI 0, kI 0, kI 0, kI 0]), (1, 4, []), (1, 4, []), (1, 4, []), (1, 16, [])]
noncomputable def kS3_10 : List kzC := [(0, 3, [kI 0, kR 1, kR 2, kR 3, kI 0, kR 4, kI 0, kI 3, kI 120, kI 0, kI 0, kI 0]), (1, 4, []), (1, 4, []), (1, 4, []), (1, 16, [])]
theorem kzc3 {l : Launch} {τ : Nat → ClassId} {D : va_G} {tys : List (ClassId × FieldType)} (hT : kzT τ tys) : ∀ q sz : Nat, Met l yX3_init (js_ws yX3_init cX3_init 1 none) kzr3 (kzPre D tys 3 kzz3 q sz) (kzPost τ D q sz kzo3) 4 28 (kzA q sz) := by
  refine kz_met (own := 3) (n := 1) (by decide) rfl rfl (by decide) hT (by decide) ?_
  intro p e s m args below meth c ls q X L hr hlk
  show kzG _ _ _ _ _ _ _ _ _ _ _ _ _ _ _ _ 0 0 kS3_0 0 []
  refine kz_al0 X L (by decide +kernel) ?_
  refine kz_oi X L (idx := 3) (mk_t1 29 rfl rfl) (by decide +kernel) ⟨(Nat.le_of_ble_eq_true rfl), (Nat.le_of_ble_eq_true rfl)⟩ (by decide) ?_
  refine kz_al0 X L (by decide +kernel) ?_
  refine kz_k X (x := 0) (Or.inl ⟨(by decide +kernel), rfl⟩) ?_
  refine ky_put X (idx := 9) (ci := 3) (T := TX3) (Cn := RX3) (N := 12) (j := 0) (o := "NumbersCalled$Plan") (nm := "counters") (dsc := "I") (fin := false) (ty := .int) (cs2 := kS3_0) (pc2 := 9) rfl (by decide) (by decide +kernel) (mk_t1 30 rfl rfl) rfl (by decide +kernel) (fun _ => rfl) (fun _ => rfl) (by decide +kernel) rfl (by decide +kernel) ?_
  refine kz_al0 X L (by decide +kernel) ?_
  refine kz_k X (x := 4) (Or.inl ⟨(by decide +kernel), rfl⟩) ?_
  refine ky_ni X (N := 4) (k0 := 1) (cs2 := kS3_1) (cells2 := 1) (slots2 := 4) (pc2 := 13) (by decide +kernel) (by decide) (by decide) (Nat.le_of_ble_eq_true rfl) (Nat.le_of_ble_eq_true rfl) (Nat.le_of_ble_eq_true rfl) (by decide +kernel) (by decide +kernel) (by decide +kernel) rfl rfl rfl ?_
  refine ky_put X (idx := 15) (ci := 3) (T := TX3) (Cn := RX3) (N := 12) (j := 1) (o := "NumbersCalled$Plan") (nm := "does") (dsc := "[I") (fin := true) (ty := .array .int) (cs2 := kS3_2) (pc2 := 16) rfl (by decide) (by decide +kernel) (mk_t1 33 rfl rfl) rfl (by decide +kernel) (fun _ => rfl) (fun _ => rfl) (by decide +kernel) rfl (by decide +kernel) ?_
  refine kz_al0 X L (by decide +kernel) ?_
  refine kz_k X (x := 4) (Or.inl ⟨(by decide +kernel), rfl⟩) ?_
  refine ky_ni X (N := 4) (k0 := 2) (cs2 := kS3_3) (cells2 := 2) (slots2 := 8) (pc2 := 20) (by decide +kernel) (by decide) (by decide) (Nat.le_of_ble_eq_true rfl) (Nat.le_of_ble_eq_true rfl) (Nat.le_of_ble_eq_true rfl) (by decide +kernel) (by decide +kernel) (by decide +kernel) rfl rfl rfl ?_
  refine ky_put X (idx := 19) (ci := 3) (T := TX3) (Cn := RX3) (N := 12) (j := 2) (o := "NumbersCalled$Plan") (nm := "slow") (dsc := "[I") (fin := true) (ty := .array .int) (cs2 := kS3_4) (pc2 := 23) rfl (by decide) (by decide +kernel) (mk_t1 36 rfl rfl) rfl (by decide +kernel) (fun _ => rfl) (fun _ => rfl) (by decide +kernel) rfl (by decide +kernel) ?_
  refine kz_al0 X L (by decide +kernel) ?_
  refine kz_k X (x := 4) (Or.inl ⟨(by decide +kernel), rfl⟩) ?_
  refine ky_ni X (N := 4) (k0 := 3) (cs2 := kS3_5) (cells2 := 3) (slots2 := 12) (pc2 := 27) (by decide +kernel) (by decide) (by decide) (Nat.le_of_ble_eq_true rfl) (Nat.le_of_ble_eq_true rfl) (Nat.le_of_ble_eq_true rfl) (by decide +kernel) (by decide +kernel) (by decide +kernel) rfl rfl rfl ?_
  refine ky_put X (idx := 22) (ci := 3) (T := TX3) (Cn := RX3) (N := 12) (j := 3) (o := "NumbersCalled$Plan") (nm := "pause") (dsc := "[I") (fin := true) (ty := .array .int) (cs2 := kS3_6) (pc2 := 30) rfl (by decide) (by decide +kernel) (mk_t1 39 rfl rfl) rfl (by decide +kernel) (fun _ => rfl) (fun _ => rfl) (by decide +kernel) rfl (by decide +kernel) ?_
  refine kz_al0 X L (by decide +kernel) ?_
  refine kz_k X (x := 0) (Or.inl ⟨(by decide +kernel), rfl⟩) ?_
  refine ky_put X (idx := 25) (ci := 3) (T := TX3) (Cn := RX3) (N := 12) (j := 4) (o := "NumbersCalled$Plan") (nm := "askers") (dsc := "I") (fin := false) (ty := .int) (cs2 := kS3_6) (pc2 := 35) rfl (by decide) (by decide +kernel) (mk_t1 41 rfl rfl) rfl (by decide +kernel) (fun _ => rfl) (fun _ => rfl) (by decide +kernel) rfl (by decide +kernel) ?_
  refine kz_al0 X L (by decide +kernel) ?_
  refine kz_k X (x := 16) (Or.inr (Or.inl ⟨(by decide +kernel), rfl, by decide⟩)) ?_
  refine ky_ni X (N := 16) (k0 := 4) (cs2 := kS3_7) (cells2 := 4) (slots2 := 28) (pc2 := 40) (by decide +kernel) (by decide) (by decide) (Nat.le_of_ble_eq_true rfl) (Nat.le_of_ble_eq_true rfl) (Nat.le_of_ble_eq_true rfl) (by decide +kernel) (by decide +kernel) (by decide +kernel) rfl rfl rfl ?_
  refine ky_put X (idx := 28) (ci := 3) (T := TX3) (Cn := RX3) (N := 12) (j := 5) (o := "NumbersCalled$Plan") (nm := "comes") (dsc := "[I") (fin := true) (ty := .array .int) (cs2 := kS3_8) (pc2 := 43) rfl (by decide) (by decide +kernel) (mk_t1 44 rfl rfl) rfl (by decide +kernel) (fun _ => rfl) (fun _ => rfl) (by decide +kernel) rfl (by decide +kernel) ?_
  refine kz_al0 X L (by decide +kernel) ?_
  refine kz_k X (x := 0) (Or.inl ⟨(by decide +kernel), rfl⟩) ?_
  refine ky_put X (idx := 31) (ci := 3) (T := TX3) (Cn := RX3) (N := 12) (j := 6) (o := "NumbersCalled$Plan") (nm := "who") (dsc := "I") (fin := false) (ty := .int) (cs2 := kS3_8) (pc2 := 48) rfl (by decide) (by decide +kernel) (mk_t1 47 rfl rfl) rfl (by decide +kernel) (fun _ => rfl) (fun _ => rfl) (by decide +kernel) rfl (by decide +kernel) ?_
  refine kz_al0 X L (by decide +kernel) ?_
  refine kz_k X (x := 3) (Or.inl ⟨(by decide +kernel), rfl⟩) ?_
  refine ky_put X (idx := 34) (ci := 3) (T := TX3) (Cn := RX3) (N := 12) (j := 7) (o := "NumbersCalled$Plan") (nm := "called") (dsc := "I") (fin := false) (ty := .int) (cs2 := kS3_9) (pc2 := 53) rfl (by decide) (by decide +kernel) (mk_t1 50 rfl rfl) rfl (by decide +kernel) (fun _ => rfl) (fun _ => rfl) (by decide +kernel) rfl (by decide +kernel) ?_
  refine kz_al0 X L (by decide +kernel) ?_
  refine kz_k X (x := 120) (Or.inr (Or.inl ⟨(by decide +kernel), rfl, by decide⟩)) ?_
  refine ky_put X (idx := 37) (ci := 3) (T := TX3) (Cn := RX3) (N := 12) (j := 8) (o := "NumbersCalled$Plan") (nm := "stop") (dsc := "I") (fin := false) (ty := .int) (cs2 := kS3_10) (pc2 := 59) rfl (by decide) (by decide +kernel) (mk_t1 53 rfl rfl) rfl (by decide +kernel) (fun _ => rfl) (fun _ => rfl) (by decide +kernel) rfl (by decide +kernel) ?_
  refine kz_al0 X L (by decide +kernel) ?_
  refine kz_k X (x := 0) (Or.inl ⟨(by decide +kernel), rfl⟩) ?_
  refine ky_put X (idx := 40) (ci := 3) (T := TX3) (Cn := RX3) (N := 12) (j := 9) (o := "NumbersCalled$Plan") (nm := "law") (dsc := "I") (fin := false) (ty := .int) (cs2 := kS3_10) (pc2 := 64) rfl (by decide) (by decide +kernel) (mk_t1 56 rfl rfl) rfl (by decide +kernel) (fun _ => rfl) (fun _ => rfl) (by decide +kernel) rfl (by decide +kernel) ?_
  refine kz_al0 X L (by decide +kernel) ?_
  refine kz_k X (x := 0) (Or.inl ⟨(by decide +kernel), rfl⟩) ?_
  refine ky_put X (idx := 43) (ci := 3) (T := TX3) (Cn := RX3) (N := 12) (j := 10) (o := "NumbersCalled$Plan") (nm := "backsLikeWrong") (dsc := "Z") (fin := false) (ty := .boolean) (cs2 := kS3_10) (pc2 := 69) rfl (by decide) (by decide +kernel) (mk_t1 58 rfl rfl) rfl (by decide +kernel) (fun _ => rfl) (fun _ => rfl) (by decide +kernel) rfl (by decide +kernel) ?_
  refine kz_al0 X L (by decide +kernel) ?_
  refine kz_k X (x := 0) (Or.inl ⟨(by decide +kernel), rfl⟩) ?_
  refine ky_put X (idx := 47) (ci := 3) (T := TX3) (Cn := RX3) (N := 12) (j := 11) (o := "NumbersCalled$Plan") (nm := "pullsNeeded") (dsc := "Z") (fin := false) (ty := .boolean) (cs2 := kS3_10) (pc2 := 74) rfl (by decide) (by decide +kernel) (mk_t1 61 rfl rfl) rfl (by decide +kernel) (fun _ => rfl) (fun _ => rfl) (by decide +kernel) rfl (by decide +kernel) ?_
  exact kz_ret X hr hlk (by decide +kernel)
def kzz4 : List kzU := [.inl 0, .inl 0, .inr none]
noncomputable def kzo4 : List kzC := [(0, 4, [kI (-1), kI 0, kR 1]), (1, 40, [])]
def kzr4 : Room := { frames := 1, cells := 1, slots := 40, locals := 20 }
noncomputable def kS4_0 : List kzC := [(0, 4, [kI 0, kI 0, kO])]
noncomputable def kS4_1 : List kzC := [(0, 4, [kI (-1), kI 0, kO])]
noncomputable def kS4_2 : List kzC := [(0, 4, [kI (-1), kI 0, kO]), (1, 40, [])]
noncomputable def kS4_3 : List kzC := [(0, 4, [kI (-1), kI 0, kR 1]), (1, 40, [])]
theorem kzc4 {l : Launch} {τ : Nat → ClassId} {D : va_G} {tys : List (ClassId × FieldType)} (hT : kzT τ tys) : ∀ q sz : Nat, Met l yX4_init (js_ws yX4_init cX4_init 1 none) kzr4 (kzPre D tys 4 kzz4 q sz) (kzPost τ D q sz kzo4) 1 40 (kzA q sz) := by
  refine kz_met (own := 4) (n := 1) (by decide) rfl rfl (by decide) hT (by decide) ?_
  intro p e s m args below meth c ls q X L hr hlk
  show kzG _ _ _ _ _ _ _ _ _ _ _ _ _ _ _ _ 0 0 kS4_0 0 []
  refine kz_al0 X L (by decide +kernel) ?_
  refine kz_oi X L (idx := 3) (mk_t2 11 rfl rfl) (by decide +kernel) ⟨(Nat.le_of_ble_eq_true rfl), (Nat.le_of_ble_eq_true rfl)⟩ (by decide) ?_
  refine kz_al0 X L (by decide +kernel) ?_
  refine kz_k X (x := -1) (Or.inl ⟨(by decide +kernel), rfl⟩) ?_
  refine ky_put X (idx := 9) (ci := 4) (T := TX4) (Cn := RX4) (N := 3) (j := 0) (o := "NumbersCalled$Sheet") (nm := "sort") (dsc := "I") (fin := false) (ty := .int) (cs2 := kS4_1) (pc2 := 9) rfl (by decide) (by decide +kernel) (mk_t2 12 rfl rfl) rfl (by decide +kernel) (fun _ => rfl) (fun _ => rfl) (by decide +kernel) rfl (by decide +kernel) ?_
  refine kz_al0 X L (by decide +kernel) ?_
  refine kz_k X (x := 0) (Or.inl ⟨(by decide +kernel), rfl⟩) ?_
  refine ky_put X (idx := 15) (ci := 4) (T := TX4) (Cn := RX4) (N := 3) (j := 1) (o := "NumbersCalled$Sheet") (nm := "size") (dsc := "I") (fin := false) (ty := .int) (cs2 := kS4_1) (pc2 := 14) rfl (by decide) (by decide +kernel) (mk_t2 14 rfl rfl) rfl (by decide +kernel) (fun _ => rfl) (fun _ => rfl) (by decide +kernel) rfl (by decide +kernel) ?_
  refine kz_al0 X L (by decide +kernel) ?_
  refine kz_k X (x := 40) (Or.inr (Or.inl ⟨(by decide +kernel), rfl, by decide⟩)) ?_
  refine ky_ni X (N := 40) (k0 := 1) (cs2 := kS4_2) (cells2 := 1) (slots2 := 40) (pc2 := 19) (by decide +kernel) (by decide) (by decide) (Nat.le_of_ble_eq_true rfl) (Nat.le_of_ble_eq_true rfl) (Nat.le_of_ble_eq_true rfl) (by decide +kernel) (by decide +kernel) (by decide +kernel) rfl rfl rfl ?_
  refine ky_put X (idx := 18) (ci := 4) (T := TX4) (Cn := RX4) (N := 3) (j := 2) (o := "NumbersCalled$Sheet") (nm := "cells") (dsc := "[I") (fin := true) (ty := .array .int) (cs2 := kS4_3) (pc2 := 22) rfl (by decide) (by decide +kernel) (mk_t2 16 rfl rfl) rfl (by decide +kernel) (fun _ => rfl) (fun _ => rfl) (by decide +kernel) rfl (by decide +kernel) ?_
  exact kz_ret X hr hlk (by decide +kernel)
def kzz5 : List kzU := [.inr none, .inl 0, .inr none, .inr none, .inl 0, .inl 0, .inl 0, .inl 0, .inl 0]
noncomputable def kzo5 : List kzC := [(0, 5, [kR 1, kI 0, kR 2, kR 3, kI 0, kI 0, kI 0, kI 14, kI 0]), (1, 160, []), (1, 160, []), (1, 3, [])]
def kzr5 : Room := { frames := 1, cells := 3, slots := 323, locals := 20 }
noncomputable def kS5_0 : List kzC := [(0, 5, [kO, kI 0, kO, kO, kI 0, kI 0, kI 0, kI 0, kI 0])]
noncomputable def kS5_1 : List kzC := [(0, 5, [kO, kI 0, kO, kO, kI 0, kI 0, kI 0, kI 0, kI 0]), (1, 160, [])]
noncomputable def kS5_2 : List kzC := [(0, 5, [kR 1, kI 0, kO, kO, kI 0, kI 0, kI 0, kI 0, kI 0]), (1, 160, [])]
noncomputable def kS5_3 : List kzC := [(0, 5, [kR 1, kI 0, kO, kO, kI 0, kI 0, kI 0, kI 0, kI 0]), (1, 160, []), (1, 160, [])]
noncomputable def kS5_4 : List kzC := [(0, 5, [kR 1, kI 0, kR 2, kO, kI 0, kI 0, kI 0, kI 0, kI 0]), (1, 160, []), (1, 160, [])]
noncomputable def kS5_5 : List kzC := [(0, 5, [kR 1, kI 0, kR 2, kO, kI 0, kI 0, kI 0, kI 0, kI 0]), (1, 160, []), (1, 160, []), (1, 3, [])]
noncomputable def kS5_6 : List kzC := [(0, 5, [kR 1, kI 0, kR 2, kR 3, kI 0, kI 0, kI 0, kI 0, kI 0]), (1, 160, []), (1, 160, []), (1, 3, [])]
noncomputable def kS5_7 : List kzC := [(0, 5, [kR 1, kI 0, kR 2, kR 3, kI 0, kI 0, kI 0, kI 14, kI 0]), (1, 160, []), (1, 160, []), (1, 3, [])]
theorem kzc5 {l : Launch} {τ : Nat → ClassId} {D : va_G} {tys : List (ClassId × FieldType)} (hT : kzT τ tys) : ∀ q sz : Nat, Met l yX5_init (js_ws yX5_init cX5_init 1 none) kzr5 (kzPre D tys 5 kzz5 q sz) (kzPost τ D q sz kzo5) 3 323 (kzA q sz) := by
  refine kz_met (own := 5) (n := 1) (by decide) rfl rfl (by decide) hT (by decide) ?_
  intro p e s m args below meth c ls q X L hr hlk
  show kzG _ _ _ _ _ _ _ _ _ _ _ _ _ _ _ _ 0 0 kS5_0 0 []
  refine kz_al0 X L (by decide +kernel) ?_
  refine kz_oi X L (idx := 3) (mk_t1 99 rfl rfl) (by decide +kernel) ⟨(Nat.le_of_ble_eq_true rfl), (Nat.le_of_ble_eq_true rfl)⟩ (by decide) ?_
  refine kz_al0 X L (by decide +kernel) ?_
  refine kz_k X (x := 160) (Or.inr (Or.inr (Or.inl ⟨(by decide +kernel), rfl, by decide⟩))) ?_
  refine ky_ni X (N := 160) (k0 := 1) (cs2 := kS5_1) (cells2 := 1) (slots2 := 160) (pc2 := 10) (by decide +kernel) (by decide) (by decide) (Nat.le_of_ble_eq_true rfl) (Nat.le_of_ble_eq_true rfl) (Nat.le_of_ble_eq_true rfl) (by decide +kernel) (by decide +kernel) (by decide +kernel) rfl rfl rfl ?_
  refine ky_put X (idx := 9) (ci := 5) (T := TX5) (Cn := RX5) (N := 9) (j := 0) (o := "NumbersCalled$Tape") (nm := "bytes") (dsc := "[I") (fin := true) (ty := .array .int) (cs2 := kS5_2) (pc2 := 13) rfl (by decide) (by decide +kernel) (mk_t1 100 rfl rfl) rfl (by decide +kernel) (fun _ => rfl) (fun _ => rfl) (by decide +kernel) rfl (by decide +kernel) ?_
  refine kz_al0 X L (by decide +kernel) ?_
  refine kz_k X (x := 0) (Or.inl ⟨(by decide +kernel), rfl⟩) ?_
  refine ky_put X (idx := 15) (ci := 5) (T := TX5) (Cn := RX5) (N := 9) (j := 1) (o := "NumbersCalled$Tape") (nm := "size") (dsc := "I") (fin := false) (ty := .int) (cs2 := kS5_2) (pc2 := 18) rfl (by decide) (by decide +kernel) (mk_t1 101 rfl rfl) rfl (by decide +kernel) (fun _ => rfl) (fun _ => rfl) (by decide +kernel) rfl (by decide +kernel) ?_
  refine kz_al0 X L (by decide +kernel) ?_
  refine kz_k X (x := 160) (Or.inr (Or.inr (Or.inl ⟨(by decide +kernel), rfl, by decide⟩))) ?_
  refine ky_ni X (N := 160) (k0 := 2) (cs2 := kS5_3) (cells2 := 2) (slots2 := 320) (pc2 := 24) (by decide +kernel) (by decide) (by decide) (Nat.le_of_ble_eq_true rfl) (Nat.le_of_ble_eq_true rfl) (Nat.le_of_ble_eq_true rfl) (by decide +kernel) (by decide +kernel) (by decide +kernel) rfl rfl rfl ?_
  refine ky_put X (idx := 19) (ci := 5) (T := TX5) (Cn := RX5) (N := 9) (j := 2) (o := "NumbersCalled$Tape") (nm := "row") (dsc := "[I") (fin := true) (ty := .array .int) (cs2 := kS5_4) (pc2 := 27) rfl (by decide) (by decide +kernel) (mk_t1 103 rfl rfl) rfl (by decide +kernel) (fun _ => rfl) (fun _ => rfl) (by decide +kernel) rfl (by decide +kernel) ?_
  refine kz_al0 X L (by decide +kernel) ?_
  refine kz_k X (x := 3) (Or.inl ⟨(by decide +kernel), rfl⟩) ?_
  refine ky_ni X (N := 3) (k0 := 3) (cs2 := kS5_5) (cells2 := 3) (slots2 := 323) (pc2 := 31) (by decide +kernel) (by decide) (by decide) (Nat.le_of_ble_eq_true rfl) (Nat.le_of_ble_eq_true rfl) (Nat.le_of_ble_eq_true rfl) (by decide +kernel) (by decide +kernel) (by decide +kernel) rfl rfl rfl ?_
  refine ky_put X (idx := 24) (ci := 5) (T := TX5) (Cn := RX5) (N := 9) (j := 3) (o := "NumbersCalled$Tape") (nm := "ends") (dsc := "[I") (fin := true) (ty := .array .int) (cs2 := kS5_6) (pc2 := 34) rfl (by decide) (by decide +kernel) (mk_t1 105 rfl rfl) rfl (by decide +kernel) (fun _ => rfl) (fun _ => rfl) (by decide +kernel) rfl (by decide +kernel) ?_
  refine kz_al0 X L (by decide +kernel) ?_
  refine kz_k X (x := 0) (Or.inl ⟨(by decide +kernel), rfl⟩) ?_
  refine ky_put X (idx := 27) (ci := 5) (T := TX5) (Cn := RX5) (N := 9) (j := 4) (o := "NumbersCalled$Tape") (nm := "told") (dsc := "I") (fin := false) (ty := .int) (cs2 := kS5_6) (pc2 := 39) rfl (by decide) (by decide +kernel) (mk_t1 107 rfl rfl) rfl (by decide +kernel) (fun _ => rfl) (fun _ => rfl) (by decide +kernel) rfl (by decide +kernel) ?_
  refine kz_al0 X L (by decide +kernel) ?_
  refine kz_k X (x := 0) (Or.inl ⟨(by decide +kernel), rfl⟩) ?_
  refine ky_put X (idx := 30) (ci := 5) (T := TX5) (Cn := RX5) (N := 9) (j := 5) (o := "NumbersCalled$Tape") (nm := "place") (dsc := "I") (fin := false) (ty := .int) (cs2 := kS5_6) (pc2 := 44) rfl (by decide) (by decide +kernel) (mk_t1 108 rfl rfl) rfl (by decide +kernel) (fun _ => rfl) (fun _ => rfl) (by decide +kernel) rfl (by decide +kernel) ?_
  refine kz_al0 X L (by decide +kernel) ?_
  refine kz_k X (x := 0) (Or.inl ⟨(by decide +kernel), rfl⟩) ?_
  refine ky_put X (idx := 33) (ci := 5) (T := TX5) (Cn := RX5) (N := 9) (j := 6) (o := "NumbersCalled$Tape") (nm := "start") (dsc := "I") (fin := false) (ty := .int) (cs2 := kS5_6) (pc2 := 49) rfl (by decide) (by decide +kernel) (mk_t1 109 rfl rfl) rfl (by decide +kernel) (fun _ => rfl) (fun _ => rfl) (by decide +kernel) rfl (by decide +kernel) ?_
  refine kz_al0 X L (by decide +kernel) ?_
  refine kz_k X (x := 14) (Or.inr (Or.inl ⟨(by decide +kernel), rfl, by decide⟩)) ?_
  refine ky_put X (idx := 36) (ci := 5) (T := TX5) (Cn := RX5) (N := 9) (j := 7) (o := "NumbersCalled$Tape") (nm := "token") (dsc := "I") (fin := false) (ty := .int) (cs2 := kS5_7) (pc2 := 55) rfl (by decide) (by decide +kernel) (mk_t1 110 rfl rfl) rfl (by decide +kernel) (fun _ => rfl) (fun _ => rfl) (by decide +kernel) rfl (by decide +kernel) ?_
  refine kz_al0 X L (by decide +kernel) ?_
  refine kz_k X (x := 0) (Or.inl ⟨(by decide +kernel), rfl⟩) ?_
  refine ky_put X (idx := 39) (ci := 5) (T := TX5) (Cn := RX5) (N := 9) (j := 8) (o := "NumbersCalled$Tape") (nm := "number") (dsc := "I") (fin := false) (ty := .int) (cs2 := kS5_7) (pc2 := 60) rfl (by decide) (by decide +kernel) (mk_t1 111 rfl rfl) rfl (by decide +kernel) (fun _ => rfl) (fun _ => rfl) (by decide +kernel) rfl (by decide +kernel) ?_
  exact kz_ret X hr hlk (by decide +kernel)
def kzz6 : List kzU := [.inr none, .inr none, .inr none, .inr none]
noncomputable def kzo6 : List kzC := [(0, 6, [kR 1, kR 2, kR 3, kR 4]), (1, 160, []), (1, 3, []), (1, 32, []), (1, 6, [])]
def kzr6 : Room := { frames := 1, cells := 4, slots := 201, locals := 20 }
noncomputable def kS6_0 : List kzC := [(0, 6, [kO, kO, kO, kO])]
noncomputable def kS6_1 : List kzC := [(0, 6, [kO, kO, kO, kO]), (1, 160, [])]
noncomputable def kS6_2 : List kzC := [(0, 6, [kR 1, kO, kO, kO]), (1, 160, [])]
noncomputable def kS6_3 : List kzC := [(0, 6, [kR 1, kO, kO, kO]), (1, 160, []), (1, 3, [])]
noncomputable def kS6_4 : List kzC := [(0, 6, [kR 1, kR 2, kO, kO]), (1, 160, []), (1, 3, [])]
noncomputable def kS6_5 : List kzC := [(0, 6, [kR 1, kR 2, kO, kO]), (1, 160, []), (1, 3, []), (1, 32, [])]
noncomputable def kS6_6 : List kzC := [(0, 6, [kR 1, kR 2, kR 3, kO]), (1, 160, []), (1, 3, []), (1, 32, [])]
noncomputable def kS6_7 : List kzC := [(0, 6, [kR 1, kR 2, kR 3, kO]), (1, 160, []), (1, 3, []), (1, 32, []), (1, 6, [])]
noncomputable def kS6_8 : List kzC := [(0, 6, [kR 1, kR 2, kR 3, kR 4]), (1, 160, []), (1, 3, []), (1, 32, []), (1, 6, [])]
theorem kzc6 {l : Launch} {τ : Nat → ClassId} {D : va_G} {tys : List (ClassId × FieldType)} (hT : kzT τ tys) : ∀ q sz : Nat, Met l yX6_init (js_ws yX6_init cX6_init 1 none) kzr6 (kzPre D tys 6 kzz6 q sz) (kzPost τ D q sz kzo6) 4 201 (kzA q sz) := by
  refine kz_met (own := 6) (n := 1) (by decide) rfl rfl (by decide) hT (by decide) ?_
  intro p e s m args below meth c ls q X L hr hlk
  show kzG _ _ _ _ _ _ _ _ _ _ _ _ _ _ _ _ 0 0 kS6_0 0 []
  refine kz_al0 X L (by decide +kernel) ?_
  refine kz_oi X L (idx := 3) (mk_t1 233 rfl rfl) (by decide +kernel) ⟨(Nat.le_of_ble_eq_true rfl), (Nat.le_of_ble_eq_true rfl)⟩ (by decide) ?_
  refine kz_al0 X L (by decide +kernel) ?_
  refine kz_k X (x := 160) (Or.inr (Or.inr (Or.inl ⟨(by decide +kernel), rfl, by decide⟩))) ?_
  refine ky_ni X (N := 160) (k0 := 1) (cs2 := kS6_1) (cells2 := 1) (slots2 := 160) (pc2 := 10) (by decide +kernel) (by decide) (by decide) (Nat.le_of_ble_eq_true rfl) (Nat.le_of_ble_eq_true rfl) (Nat.le_of_ble_eq_true rfl) (by decide +kernel) (by decide +kernel) (by decide +kernel) rfl rfl rfl ?_
  refine ky_put X (idx := 9) (ci := 6) (T := TX6) (Cn := RX6) (N := 4) (j := 0) (o := "NumbersCalled$Text") (nm := "row") (dsc := "[I") (fin := true) (ty := .array .int) (cs2 := kS6_2) (pc2 := 13) rfl (by decide) (by decide +kernel) (mk_t1 234 rfl rfl) rfl (by decide +kernel) (fun _ => rfl) (fun _ => rfl) (by decide +kernel) rfl (by decide +kernel) ?_
  refine kz_al0 X L (by decide +kernel) ?_
  refine kz_k X (x := 3) (Or.inl ⟨(by decide +kernel), rfl⟩) ?_
  refine ky_ni X (N := 3) (k0 := 2) (cs2 := kS6_3) (cells2 := 2) (slots2 := 163) (pc2 := 17) (by decide +kernel) (by decide) (by decide) (Nat.le_of_ble_eq_true rfl) (Nat.le_of_ble_eq_true rfl) (Nat.le_of_ble_eq_true rfl) (by decide +kernel) (by decide +kernel) (by decide +kernel) rfl rfl rfl ?_
  refine ky_put X (idx := 15) (ci := 6) (T := TX6) (Cn := RX6) (N := 4) (j := 1) (o := "NumbersCalled$Text") (nm := "ends") (dsc := "[I") (fin := true) (ty := .array .int) (cs2 := kS6_4) (pc2 := 20) rfl (by decide) (by decide +kernel) (mk_t1 235 rfl rfl) rfl (by decide +kernel) (fun _ => rfl) (fun _ => rfl) (by decide +kernel) rfl (by decide +kernel) ?_
  refine kz_al0 X L (by decide +kernel) ?_
  refine kz_k X (x := 32) (Or.inr (Or.inl ⟨(by decide +kernel), rfl, by decide⟩)) ?_
  refine ky_ni X (N := 32) (k0 := 3) (cs2 := kS6_5) (cells2 := 3) (slots2 := 195) (pc2 := 25) (by decide +kernel) (by decide) (by decide) (Nat.le_of_ble_eq_true rfl) (Nat.le_of_ble_eq_true rfl) (Nat.le_of_ble_eq_true rfl) (by decide +kernel) (by decide +kernel) (by decide +kernel) rfl rfl rfl ?_
  refine ky_put X (idx := 18) (ci := 6) (T := TX6) (Cn := RX6) (N := 4) (j := 2) (o := "NumbersCalled$Text") (nm := "pile") (dsc := "[I") (fin := true) (ty := .array .int) (cs2 := kS6_6) (pc2 := 28) rfl (by decide) (by decide +kernel) (mk_t1 236 rfl rfl) rfl (by decide +kernel) (fun _ => rfl) (fun _ => rfl) (by decide +kernel) rfl (by decide +kernel) ?_
  refine kz_al0 X L (by decide +kernel) ?_
  refine kz_k X (x := 6) (Or.inr (Or.inl ⟨(by decide +kernel), rfl, by decide⟩)) ?_
  refine ky_ni X (N := 6) (k0 := 4) (cs2 := kS6_7) (cells2 := 4) (slots2 := 201) (pc2 := 33) (by decide +kernel) (by decide) (by decide) (Nat.le_of_ble_eq_true rfl) (Nat.le_of_ble_eq_true rfl) (Nat.le_of_ble_eq_true rfl) (by decide +kernel) (by decide +kernel) (by decide +kernel) rfl rfl rfl ?_
  refine ky_put X (idx := 21) (ci := 6) (T := TX6) (Cn := RX6) (N := 4) (j := 3) (o := "NumbersCalled$Text") (nm := "named") (dsc := "[I") (fin := true) (ty := .array .int) (cs2 := kS6_8) (pc2 := 36) rfl (by decide) (by decide +kernel) (mk_t1 237 rfl rfl) rfl (by decide +kernel) (fun _ => rfl) (fun _ => rfl) (by decide +kernel) rfl (by decide +kernel) ?_
  exact kz_ret X hr hlk (by decide +kernel)
def kzz1 : List kzU := [.inr none, .inr none, .inr none, .inr none, .inr none, .inr none, .inr none, .inr none, .inr none, .inr none, .inl 0, .inl 0]
noncomputable def kzo1 : List kzC := [(0, 1, [kR 1, kR 6, kR 7, kR 8, kR 9, kR 10, kR 11, kR 12, kR 13, kR 14, kI 0, kI 0]), (0, 3, [kI 0, kR 2, kR 3, kR 4, kI 0, kR 5, kI 0, kI 3, kI 120, kI 0, kI 0, kI 0]), (1, 4, []), (1, 4, []), (1, 4, []), (1, 16, []), (1, 16, []), (1, 16, []), (1, 16, []), (1, 16, []), (1, 16, []), (1, 4, []), (1, 16, []), (1, 4, []), (1, 16, [])]
def kzr1 : Room := { frames := 2, cells := 14, slots := 160, locals := 60 }
noncomputable def kS1_0 : List kzC := [(0, 1, [kO, kO, kO, kO, kO, kO, kO, kO, kO, kO, kI 0, kI 0])]
noncomputable def kS1_1 : List kzC := [(0, 1, [kO, kO, kO, kO, kO, kO, kO, kO, kO, kO, kI 0, kI 0]), (0, 3, [kI 0, kR 2, kR 3, kR 4, kI 0, kR 5, kI 0, kI 3, kI 120, kI 0, kI 0, kI 0]), (1, 4, []), (1, 4, []), (1, 4, []), (1, 16, [])]
noncomputable def kS1_2 : List kzC := [(0, 1, [kR 1, kO, kO, kO, kO, kO, kO, kO, kO, kO, kI 0, kI 0]), (0, 3, [kI 0, kR 2, kR 3, kR 4, kI 0, kR 5, kI 0, kI 3, kI 120, kI 0, kI 0, kI 0]), (1, 4, []), (1, 4, []), (1, 4, []), (1, 16, [])]
noncomputable def kS1_3 : List kzC := [(0, 1, [kR 1, kO, kO, kO, kO, kO, kO, kO, kO, kO, kI 0, kI 0]), (0, 3, [kI 0, kR 2, kR 3, kR 4, kI 0, kR 5, kI 0, kI 3, kI 120, kI 0, kI 0, kI 0]), (1, 4, []), (1, 4, []), (1, 4, []), (1, 16, []), (1, 16, [])]
noncomputable def kS1_4 : List kzC := [(0, 1, [kR 1, kR 6, kO, kO, kO, kO, kO, kO, kO, kO, kI 0, kI 0]), (0, 3, [kI 0, kR 2, kR 3, kR 4, kI 0, kR 5, kI 0, kI 3, kI 120, kI 0, kI 0, kI 0]), (1, 4, []), (1, 4, []), (1, 4, []), (1, 16, []), (1, 16, [])]
noncomputable def kS1_5 : List kzC := [(0, 1, [kR 1, kR 6, kO, kO, kO, kO, kO, kO, kO, kO, kI 0, kI 0]), (0, 3, [kI 0, kR 2, kR 3, kR 4, kI 0, kR 5, kI 0, kI 3, kI 120, kI 0, kI 0, kI 0]), (1, 4, []), (1, 4, []), (1, 4, []), (1, 16, []), (1, 16, []), (1, 16, [])]
noncomputable def kS1_6 : List kzC := [(0, 1, [kR 1, kR 6, kR 7, kO, kO, kO, kO, kO, kO, kO, kI 0, kI 0]), (0, 3, [kI 0, kR 2, kR 3, kR 4, kI 0, kR 5, kI 0, kI 3, kI 120, kI 0, kI 0, kI 0]), (1, 4, []), (1, 4, []), (1, 4, []), (1, 16, []), (1, 16, []), (1, 16, [])]
noncomputable def kS1_7 : List kzC := [(0, 1, [kR 1, kR 6, kR 7, kO, kO, kO, kO, kO, kO, kO, kI 0, kI 0]), (0, 3, [kI 0, kR 2, kR 3, kR 4, kI 0, kR 5, kI 0, kI 3, kI 120, kI 0, kI 0, kI 0]), (1, 4, []), (1, 4, []), (1, 4, []), (1, 16, []), (1, 16, []), (1, 16, []), (1, 16, [])]
noncomputable def kS1_8 : List kzC := [(0, 1, [kR 1, kR 6, kR 7, kR 8, kO, kO, kO, kO, kO, kO, kI 0, kI 0]), (0, 3, [kI 0, kR 2, kR 3, kR 4, kI 0, kR 5, kI 0, kI 3, kI 120, kI 0, kI 0, kI 0]), (1, 4, []), (1, 4, []), (1, 4, []), (1, 16, []), (1, 16, []), (1, 16, []), (1, 16, [])]
noncomputable def kS1_9 : List kzC := [(0, 1, [kR 1, kR 6, kR 7, kR 8, kO, kO, kO, kO, kO, kO, kI 0, kI 0]), (0, 3, [kI 0, kR 2, kR 3, kR 4, kI 0, kR 5, kI 0, kI 3, kI 120, kI 0, kI 0, kI 0]), (1, 4, []), (1, 4, []), (1, 4, []), (1, 16, []), (1, 16, []), (1, 16, []), (1, 16, []), (1, 16, [])]
noncomputable def kS1_10 : List kzC := [(0, 1, [kR 1, kR 6, kR 7, kR 8, kR 9, kO, kO, kO, kO, kO, kI 0, kI 0]), (0, 3, [kI 0, kR 2, kR 3, kR 4, kI 0, kR 5, kI 0, kI 3, kI 120, kI 0, kI 0, kI 0]), (1, 4, []), (1, 4, []), (1, 4, []), (1, 16, []), (1, 16, []), (1, 16, []), (1, 16, []), (1, 16, [])]
noncomputable def kS1_11 : List kzC := [(0, 1, [kR 1, kR 6, kR 7, kR 8, kR 9, kO, kO, kO, kO, kO, kI 0, kI 0]), (0, 3, [kI 0, kR 2, kR 3, kR 4, kI 0, kR 5, kI 0, kI 3, kI 120, kI 0, kI 0, kI 0]), (1, 4, []), (1, 4, []), (1, 4, []), (1, 16, []), (1, 16, []), (1, 16, []), (1, 16, []), (1, 16, []), (1, 16, [])]
noncomputable def kS1_12 : List kzC := [(0, 1, [kR 1, kR 6, kR 7, kR 8, kR 9, kR 10, kO, kO, kO, kO, kI 0, kI 0]), (0, 3, [kI 0, kR 2, kR 3, kR 4, kI 0, kR 5, kI 0, kI 3, kI 120, kI 0, kI 0, kI 0]), (1, 4, []), (1, 4, []), (1, 4, []), (1, 16, []), (1, 16, []), (1, 16, []), (1, 16, []), (1, 16, []), (1, 16, [])]
noncomputable def kS1_13 : List kzC := [(0, 1, [kR 1, kR 6, kR 7, kR 8, kR 9, kR 10, kO, kO, kO, kO, kI 0, kI 0]), (0, 3, [kI 0, kR 2, kR 3, kR 4, kI 0, kR 5, kI 0, kI 3, kI 120, kI 0, kI 0, kI 0]), (1, 4, []), (1, 4, []), (1, 4, []), (1, 16, []), (1, 16, []), (1, 16, []), (1, 16, []), (1, 16, []), (1, 16, []), (1, 4, [])]
noncomputable def kS1_14 : List kzC := [(0, 1, [kR 1, kR 6, kR 7, kR 8, kR 9, kR 10, kR 11, kO, kO, kO, kI 0, kI 0]), (0, 3, [kI 0, kR 2, kR 3, kR 4, kI 0, kR 5, kI 0, kI 3, kI 120, kI 0, kI 0, kI 0]), (1, 4, []), (1, 4, []), (1, 4, []), (1, 16, []), (1, 16, []), (1, 16, []), (1, 16, []), (1, 16, []), (1, 16, []), (1, 4, [])]
noncomputable def kS1_15 : List kzC := [(0, 1, [kR 1, kR 6, kR 7, kR 8, kR 9, kR 10, kR 11, kO, kO, kO, kI 0, kI 0]), (0, 3, [kI 0, kR 2, kR 3, kR 4, kI 0, kR 5, kI 0, kI 3, kI 120, kI 0, kI 0, kI 0]), (1, 4, []), (1, 4, []), (1, 4, []), (1, 16, []), (1, 16, []), (1, 16, []), (1, 16, []), (1, 16, []), (1, 16, []), (1, 4, []), (1, 16, [])]
noncomputable def kS1_16 : List kzC := [(0, 1, [kR 1, kR 6, kR 7, kR 8, kR 9, kR 10, kR 11, kR 12, kO, kO, kI 0, kI 0]), (0, 3, [kI 0, kR 2, kR 3, kR 4, kI 0, kR 5, kI 0, kI 3, kI 120, kI 0, kI 0, kI 0]), (1, 4, []), (1, 4, []), (1, 4, []), (1, 16, []), (1, 16, []), (1, 16, []), (1, 16, []), (1, 16, []), (1, 16, []), (1, 4, []), (1, 16, [])]
noncomputable def kS1_17 : List kzC := [(0, 1, [kR 1, kR 6, kR 7, kR 8, kR 9, kR 10, kR 11, kR 12, kO, kO, kI 0, kI 0]), (0, 3, [kI 0, kR 2, kR 3, kR 4, kI 0, kR 5, kI 0, kI 3, kI 120, kI 0, kI 0, kI 0]), (1, 4, []), (1, 4, []), (1, 4, []), (1, 16, []), (1, 16, []), (1, 16, []), (1, 16, []), (1, 16, []), (1, 16, []), (1, 4, []), (1, 16, []), (1, 4, [])]
noncomputable def kS1_18 : List kzC := [(0, 1, [kR 1, kR 6, kR 7, kR 8, kR 9, kR 10, kR 11, kR 12, kR 13, kO, kI 0, kI 0]), (0, 3, [kI 0, kR 2, kR 3, kR 4, kI 0, kR 5, kI 0, kI 3, kI 120, kI 0, kI 0, kI 0]), (1, 4, []), (1, 4, []), (1, 4, []), (1, 16, []), (1, 16, []), (1, 16, []), (1, 16, []), (1, 16, []), (1, 16, []), (1, 4, []), (1, 16, []), (1, 4, [])]
noncomputable def kS1_19 : List kzC := [(0, 1, [kR 1, kR 6, kR 7, kR 8, kR 9, kR 10, kR 11, kR 12, kR 13, kO, kI 0, kI 0]), (0, 3, [kI 0, kR 2, kR 3, kR 4, kI 0, kR 5, kI 0, kI 3, kI 120, kI 0, kI 0, kI 0]), (1, 4, []), (1, 4, []), (1, 4, []), (1, 16, []), (1, 16, []), (1, 16, []), (1, 16, []), (1, 16, []), (1, 16, []), (1, 4, []), (1, 16, []), (1, 4, []), (1, 16, [])]
noncomputable def kS1_20 : List kzC := [(0, 1, [kR 1, kR 6, kR 7, kR 8, kR 9, kR 10, kR 11, kR 12, kR 13, kR 14, kI 0, kI 0]), (0, 3, [kI 0, kR 2, kR 3, kR 4, kI 0, kR 5, kI 0, kI 3, kI 120, kI 0, kI 0, kI 0]), (1, 4, []), (1, 4, []), (1, 4, []), (1, 16, []), (1, 16, []), (1, 16, []), (1, 16, []), (1, 16, []), (1, 16, []), (1, 4, []), (1, 16, []), (1, 4, []), (1, 16, [])]
theorem kzc1 {l : Launch} {τ : Nat → ClassId} {D : va_G} {tys : List (ClassId × FieldType)} (hT : kzT τ tys) : ∀ q sz : Nat, Met l yX1_init (js_ws yX1_init cX1_init 1 none) kzr1 (kzPre D tys 1 kzz1 q sz) (kzPost τ D q sz kzo1) 14 160 (kzA q sz) := by
  refine kz_met (own := 1) (n := 1) (by decide) rfl rfl (by decide) hT (by decide) ?_
  intro p e s m args below meth c ls q X L hr hlk
  show kzG _ _ _ _ _ _ _ _ _ _ _ _ _ _ _ _ 0 0 kS1_0 0 []
  refine kz_al0 X L (by decide +kernel) ?_
  refine kz_oi X L (idx := 3) (mk_t1 138 rfl rfl) (by decide +kernel) ⟨(Nat.le_of_ble_eq_true rfl), (Nat.le_of_ble_eq_true rfl)⟩ (by decide) ?_
  refine kz_al0 X L (by decide +kernel) ?_
  refine ky_mk X L (k0 := 1) (cs2 := kS1_1) (cells2 := 5) (slots2 := 40) (pc2 := 12) (ci := 3) (T := TX3) (Cn := RX3) (N := 12) (idx := 9) (idx2 := 11) (out := kzo3) (z := kzz3) rfl tyX3_ok (by decide +kernel) rfl (kzc3 X.2.2.2.2.2.2.2.1) rfl rfl (mk_t1 139 rfl rfl) (mk_t1 25 rfl rfl) (mk_t1 2 rfl rfl) rfl rfl (by decide) (mk_t1 27 rfl rfl) (mk_t1 28 rfl rfl) ⟨by decide, by decide, by decide +kernel⟩ ⟨(Nat.le_of_ble_eq_true rfl), (Nat.le_of_ble_eq_true rfl)⟩ ⟨(Nat.le_of_ble_eq_true rfl), (Nat.le_of_ble_eq_true rfl)⟩ (by decide) (by decide +kernel) (by decide +kernel) (by decide +kernel) (by decide +kernel) (by decide +kernel) (by decide +kernel) rfl rfl rfl ?_
  refine ky_put X (idx := 12) (ci := 1) (T := TX1) (Cn := RX1) (N := 12) (j := 0) (o := "NumbersCalled$Day") (nm := "plan") (dsc := "LNumbersCalled$Plan;") (fin := true) (ty := .object "NumbersCalled$Plan") (cs2 := kS1_2) (pc2 := 15) rfl (by decide) (by decide +kernel) (mk_t1 141 rfl rfl) rfl (by decide +kernel) (fun _ => rfl) (fun _ => rfl) (by decide +kernel) rfl (by decide +kernel) ?_
  refine kz_al0 X L (by decide +kernel) ?_
  refine kz_k X (x := 16) (Or.inr (Or.inl ⟨(by decide +kernel), rfl, by decide⟩)) ?_
  refine ky_ni X (N := 16) (k0 := 6) (cs2 := kS1_3) (cells2 := 6) (slots2 := 56) (pc2 := 20) (by decide +kernel) (by decide) (by decide) (Nat.le_of_ble_eq_true rfl) (Nat.le_of_ble_eq_true rfl) (Nat.le_of_ble_eq_true rfl) (by decide +kernel) (by decide +kernel) (by decide +kernel) rfl rfl rfl ?_
  refine ky_put X (idx := 18) (ci := 1) (T := TX1) (Cn := RX1) (N := 12) (j := 1) (o := "NumbersCalled$Day") (nm := "fate") (dsc := "[I") (fin := true) (ty := .array .int) (cs2 := kS1_4) (pc2 := 23) rfl (by decide) (by decide +kernel) (mk_t1 143 rfl rfl) rfl (by decide +kernel) (fun _ => rfl) (fun _ => rfl) (by decide +kernel) rfl (by decide +kernel) ?_
  refine kz_al0 X L (by decide +kernel) ?_
  refine kz_k X (x := 16) (Or.inr (Or.inl ⟨(by decide +kernel), rfl, by decide⟩)) ?_
  refine ky_ni X (N := 16) (k0 := 7) (cs2 := kS1_5) (cells2 := 7) (slots2 := 72) (pc2 := 28) (by decide +kernel) (by decide) (by decide) (Nat.le_of_ble_eq_true rfl) (Nat.le_of_ble_eq_true rfl) (Nat.le_of_ble_eq_true rfl) (by decide +kernel) (by decide +kernel) (by decide +kernel) rfl rfl rfl ?_
  refine ky_put X (idx := 22) (ci := 1) (T := TX1) (Cn := RX1) (N := 12) (j := 2) (o := "NumbersCalled$Day") (nm := "began") (dsc := "[I") (fin := true) (ty := .array .int) (cs2 := kS1_6) (pc2 := 31) rfl (by decide) (by decide +kernel) (mk_t1 145 rfl rfl) rfl (by decide +kernel) (fun _ => rfl) (fun _ => rfl) (by decide +kernel) rfl (by decide +kernel) ?_
  refine kz_al0 X L (by decide +kernel) ?_
  refine kz_k X (x := 16) (Or.inr (Or.inl ⟨(by decide +kernel), rfl, by decide⟩)) ?_
  refine ky_ni X (N := 16) (k0 := 8) (cs2 := kS1_7) (cells2 := 8) (slots2 := 88) (pc2 := 36) (by decide +kernel) (by decide) (by decide) (Nat.le_of_ble_eq_true rfl) (Nat.le_of_ble_eq_true rfl) (Nat.le_of_ble_eq_true rfl) (by decide +kernel) (by decide +kernel) (by decide +kernel) rfl rfl rfl ?_
  refine ky_put X (idx := 25) (ci := 1) (T := TX1) (Cn := RX1) (N := 12) (j := 3) (o := "NumbersCalled$Day") (nm := "ended") (dsc := "[I") (fin := true) (ty := .array .int) (cs2 := kS1_8) (pc2 := 39) rfl (by decide) (by decide +kernel) (mk_t1 147 rfl rfl) rfl (by decide +kernel) (fun _ => rfl) (fun _ => rfl) (by decide +kernel) rfl (by decide +kernel) ?_
  refine kz_al0 X L (by decide +kernel) ?_
  refine kz_k X (x := 16) (Or.inr (Or.inl ⟨(by decide +kernel), rfl, by decide⟩)) ?_
  refine ky_ni X (N := 16) (k0 := 9) (cs2 := kS1_9) (cells2 := 9) (slots2 := 104) (pc2 := 44) (by decide +kernel) (by decide) (by decide) (Nat.le_of_ble_eq_true rfl) (Nat.le_of_ble_eq_true rfl) (Nat.le_of_ble_eq_true rfl) (by decide +kernel) (by decide +kernel) (by decide +kernel) rfl rfl rfl ?_
  refine ky_put X (idx := 28) (ci := 1) (T := TX1) (Cn := RX1) (N := 12) (j := 4) (o := "NumbersCalled$Day") (nm := "servedAt") (dsc := "[I") (fin := true) (ty := .array .int) (cs2 := kS1_10) (pc2 := 47) rfl (by decide) (by decide +kernel) (mk_t1 149 rfl rfl) rfl (by decide +kernel) (fun _ => rfl) (fun _ => rfl) (by decide +kernel) rfl (by decide +kernel) ?_
  refine kz_al0 X L (by decide +kernel) ?_
  refine kz_k X (x := 16) (Or.inr (Or.inl ⟨(by decide +kernel), rfl, by decide⟩)) ?_
  refine ky_ni X (N := 16) (k0 := 10) (cs2 := kS1_11) (cells2 := 10) (slots2 := 120) (pc2 := 52) (by decide +kernel) (by decide) (by decide) (Nat.le_of_ble_eq_true rfl) (Nat.le_of_ble_eq_true rfl) (Nat.le_of_ble_eq_true rfl) (by decide +kernel) (by decide +kernel) (by decide +kernel) rfl rfl rfl ?_
  refine ky_put X (idx := 31) (ci := 1) (T := TX1) (Cn := RX1) (N := 12) (j := 5) (o := "NumbersCalled$Day") (nm := "times") (dsc := "[I") (fin := true) (ty := .array .int) (cs2 := kS1_12) (pc2 := 55) rfl (by decide) (by decide +kernel) (mk_t1 151 rfl rfl) rfl (by decide +kernel) (fun _ => rfl) (fun _ => rfl) (by decide +kernel) rfl (by decide +kernel) ?_
  refine kz_al0 X L (by decide +kernel) ?_
  refine kz_k X (x := 4) (Or.inl ⟨(by decide +kernel), rfl⟩) ?_
  refine ky_ni X (N := 4) (k0 := 11) (cs2 := kS1_13) (cells2 := 11) (slots2 := 124) (pc2 := 59) (by decide +kernel) (by decide) (by decide) (Nat.le_of_ble_eq_true rfl) (Nat.le_of_ble_eq_true rfl) (Nat.le_of_ble_eq_true rfl) (by decide +kernel) (by decide +kernel) (by decide +kernel) rfl rfl rfl ?_
  refine ky_put X (idx := 34) (ci := 1) (T := TX1) (Cn := RX1) (N := 12) (j := 6) (o := "NumbersCalled$Day") (nm := "idled") (dsc := "[I") (fin := true) (ty := .array .int) (cs2 := kS1_14) (pc2 := 62) rfl (by decide) (by decide +kernel) (mk_t1 153 rfl rfl) rfl (by decide +kernel) (fun _ => rfl) (fun _ => rfl) (by decide +kernel) rfl (by decide +kernel) ?_
  refine kz_al0 X L (by decide +kernel) ?_
  refine kz_k X (x := 16) (Or.inr (Or.inl ⟨(by decide +kernel), rfl, by decide⟩)) ?_
  refine ky_ni X (N := 16) (k0 := 12) (cs2 := kS1_15) (cells2 := 12) (slots2 := 140) (pc2 := 67) (by decide +kernel) (by decide) (by decide) (Nat.le_of_ble_eq_true rfl) (Nat.le_of_ble_eq_true rfl) (Nat.le_of_ble_eq_true rfl) (by decide +kernel) (by decide +kernel) (by decide +kernel) rfl rfl rfl ?_
  refine ky_put X (idx := 37) (ci := 1) (T := TX1) (Cn := RX1) (N := 12) (j := 7) (o := "NumbersCalled$Day") (nm := "waitsWith") (dsc := "[I") (fin := true) (ty := .array .int) (cs2 := kS1_16) (pc2 := 70) rfl (by decide) (by decide +kernel) (mk_t1 155 rfl rfl) rfl (by decide +kernel) (fun _ => rfl) (fun _ => rfl) (by decide +kernel) rfl (by decide +kernel) ?_
  refine kz_al0 X L (by decide +kernel) ?_
  refine kz_k X (x := 4) (Or.inl ⟨(by decide +kernel), rfl⟩) ?_
  refine ky_ni X (N := 4) (k0 := 13) (cs2 := kS1_17) (cells2 := 13) (slots2 := 144) (pc2 := 74) (by decide +kernel) (by decide) (by decide) (Nat.le_of_ble_eq_true rfl) (Nat.le_of_ble_eq_true rfl) (Nat.le_of_ble_eq_true rfl) (by decide +kernel) (by decide +kernel) (by decide +kernel) rfl rfl rfl ?_
  refine ky_put X (idx := 40) (ci := 1) (T := TX1) (Cn := RX1) (N := 12) (j := 8) (o := "NumbersCalled$Day") (nm := "busyTill") (dsc := "[I") (fin := true) (ty := .array .int) (cs2 := kS1_18) (pc2 := 77) rfl (by decide) (by decide +kernel) (mk_t1 156 rfl rfl) rfl (by decide +kernel) (fun _ => rfl) (fun _ => rfl) (by decide +kernel) rfl (by decide +kernel) ?_
  refine kz_al0 X L (by decide +kernel) ?_
  refine kz_k X (x := 16) (Or.inr (Or.inl ⟨(by decide +kernel), rfl, by decide⟩)) ?_
  refine ky_ni X (N := 16) (k0 := 14) (cs2 := kS1_19) (cells2 := 14) (slots2 := 160) (pc2 := 82) (by decide +kernel) (by decide) (by decide) (Nat.le_of_ble_eq_true rfl) (Nat.le_of_ble_eq_true rfl) (Nat.le_of_ble_eq_true rfl) (by decide +kernel) (by decide +kernel) (by decide +kernel) rfl rfl rfl ?_
  refine ky_put X (idx := 43) (ci := 1) (T := TX1) (Cn := RX1) (N := 12) (j := 9) (o := "NumbersCalled$Day") (nm := "line") (dsc := "[I") (fin := true) (ty := .array .int) (cs2 := kS1_20) (pc2 := 85) rfl (by decide) (by decide +kernel) (mk_t1 157 rfl rfl) rfl (by decide +kernel) (fun _ => rfl) (fun _ => rfl) (by decide +kernel) rfl (by decide +kernel) ?_
  refine kz_al0 X L (by decide +kernel) ?_
  refine kz_k X (x := 0) (Or.inl ⟨(by decide +kernel), rfl⟩) ?_
  refine ky_put X (idx := 46) (ci := 1) (T := TX1) (Cn := RX1) (N := 12) (j := 10) (o := "NumbersCalled$Day") (nm := "toCome") (dsc := "I") (fin := false) (ty := .int) (cs2 := kS1_20) (pc2 := 90) rfl (by decide) (by decide +kernel) (mk_t1 158 rfl rfl) rfl (by decide +kernel) (fun _ => rfl) (fun _ => rfl) (by decide +kernel) rfl (by decide +kernel) ?_
  refine kz_al0 X L (by decide +kernel) ?_
  refine kz_k X (x := 0) (Or.inl ⟨(by decide +kernel), rfl⟩) ?_
  refine ky_put X (idx := 50) (ci := 1) (T := TX1) (Cn := RX1) (N := 12) (j := 11) (o := "NumbersCalled$Day") (nm := "wanted") (dsc := "I") (fin := false) (ty := .int) (cs2 := kS1_20) (pc2 := 95) rfl (by decide) (by decide +kernel) (mk_t1 159 rfl rfl) rfl (by decide +kernel) (fun _ => rfl) (fun _ => rfl) (by decide +kernel) rfl (by decide +kernel) ?_
  exact kz_ret X hr hlk (by decide +kernel)
