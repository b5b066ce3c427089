/-! printed by wip/whole/ctors.py: the constructors of the parts -/
def kzz0 : List kzU := [.inl 0, .inl 0, .inl 0, .inl 0]
def kzo0 : List kzC := [(0, 0, [.inl 0, .inl 0, .inl 1, .inl 0])]
def kzr0 : Room := { frames := 1, cells := 0, slots := 0, locals := 20 }
theorem kzc0 {l : Launch} {τ : Nat → ClassId} {D : va_G} {tys : List (ClassId × FieldType)} (hT : kzT τ tys) : ∀ q sz : Nat, Met l yX0_init (js_ws yX0_init cX0_init 1 none) kzr0 (kzPre D tys 0 kzz0 q sz) (kzPost τ D q sz kzo0) 0 0 (kzA q sz) := by
  refine kz_met (own := 0) (n := 1) (by decide) rfl rfl (by decide) hT (by decide) ?_
  intro p e s m args below meth c ls q X L hr hlk
  refine kz_al0 X L (by decide +kernel) ?_
  refine kz_oi X L (idx := 3) (mk_t1 205 rfl rfl) (by decide +kernel) ⟨(Nat.le_of_ble_eq_true rfl), (Nat.le_of_ble_eq_true rfl)⟩ (by decide) ?_
  show kzG _ _ _ _ _ _ _ _ _ _ _ _ _ _ _ _ 0 0 [(0, 0, [.inl 0, .inl 0, .inl 0, .inl 0])] 4 []
  refine kz_al0 X L (by decide +kernel) ?_
  refine kz_k X (x := 0) (Or.inl ⟨(by decide +kernel), rfl⟩) ?_
  refine kz_put X (idx := 9) (T := TX0) (Cn := RX0) (N := 4) (j := 0) rfl (by decide) (mk_t1 206 rfl rfl) rfl (tyX0_ok 0 (by decide)) (fun _ => rfl) (fun _ => rfl) (by decide) (by decide +kernel) ?_
  show kzG _ _ _ _ _ _ _ _ _ _ _ _ _ _ _ _ 0 0 [(0, 0, [.inl 0, .inl 0, .inl 0, .inl 0])] 9 []
  refine kz_al0 X L (by decide +kernel) ?_
  refine kz_k X (x := 0) (Or.inl ⟨(by decide +kernel), rfl⟩) ?_
  refine kz_put X (idx := 15) (T := TX0) (Cn := RX0) (N := 4) (j := 1) rfl (by decide) (mk_t1 208 rfl rfl) rfl (tyX0_ok 1 (by decide)) (fun _ => rfl) (fun _ => rfl) (by decide) (by decide +kernel) ?_
  show kzG _ _ _ _ _ _ _ _ _ _ _ _ _ _ _ _ 0 0 [(0, 0, [.inl 0, .inl 0, .inl 0, .inl 0])] 14 []
  refine kz_al0 X L (by decide +kernel) ?_
  refine kz_k X (x := 1) (Or.inl ⟨(by decide +kernel), rfl⟩) ?_
  refine kz_put X (idx := 18) (T := TX0) (Cn := RX0) (N := 4) (j := 2) rfl (by decide) (mk_t1 212 rfl rfl) rfl (tyX0_ok 2 (by decide)) (fun _ => rfl) (fun _ => rfl) (by decide) (by decide +kernel) ?_
  show kzG _ _ _ _ _ _ _ _ _ _ _ _ _ _ _ _ 0 0 [(0, 0, [.inl 0, .inl 0, .inl 1, .inl 0])] 19 []
  refine kz_al0 X L (by decide +kernel) ?_
  refine kz_k X (x := 0) (Or.inl ⟨(by decide +kernel), rfl⟩) ?_
  refine kz_put X (idx := 21) (T := TX0) (Cn := RX0) (N := 4) (j := 3) rfl (by decide) (mk_t1 216 rfl rfl) rfl (tyX0_ok 3 (by decide)) (fun _ => rfl) (fun _ => rfl) (by decide) (by decide +kernel) ?_
  show kzG _ _ _ _ _ _ _ _ _ _ _ _ _ _ _ _ 0 0 [(0, 0, [.inl 0, .inl 0, .inl 1, .inl 0])] 24 []
  exact kz_ret X hr hlk (by decide +kernel)
def kzz2 : List kzU := [.inl 0, .inl 0]
def kzo2 : List kzC := [(0, 2, [.inl (-1), .inl 2147483647])]
def kzr2 : Room := { frames := 1, cells := 0, slots := 0, locals := 20 }
theorem kzc2 {l : Launch} {τ : Nat → ClassId} {D : va_G} {tys : List (ClassId × FieldType)} (hT : kzT τ tys) : ∀ q sz : Nat, Met l yX2_init (js_ws yX2_init cX2_init 1 none) kzr2 (kzPre D tys 2 kzz2 q sz) (kzPost τ D q sz kzo2) 0 0 (kzA q sz) := by
  refine kz_met (own := 2) (n := 1) (by decide) rfl rfl (by decide) hT (by decide) ?_
  intro p e s m args below meth c ls q X L hr hlk
  refine kz_al0 X L (by decide +kernel) ?_
  refine kz_oi X L (idx := 3) (mk_t1 190 rfl rfl) (by decide +kernel) ⟨(Nat.le_of_ble_eq_true rfl), (Nat.le_of_ble_eq_true rfl)⟩ (by decide) ?_
  show kzG _ _ _ _ _ _ _ _ _ _ _ _ _ _ _ _ 0 0 [(0, 2, [.inl 0, .inl 0])] 4 []
  refine kz_al0 X L (by decide +kernel) ?_
  refine kz_k X (x := -1) (Or.inl ⟨(by decide +kernel), rfl⟩) ?_
  refine kz_put X (idx := 9) (T := TX2) (Cn := RX2) (N := 2) (j := 0) rfl (by decide) (mk_t1 192 rfl rfl) rfl (tyX2_ok 0 (by decide)) (fun _ => rfl) (fun _ => rfl) (by decide) (by decide +kernel) ?_
  show kzG _ _ _ _ _ _ _ _ _ _ _ _ _ _ _ _ 0 0 [(0, 2, [.inl (-1), .inl 0])] 9 []
  refine kz_al0 X L (by decide +kernel) ?_
  refine kz_k X (x := 2147483647) (Or.inr (Or.inr (Or.inr ⟨15, (by decide +kernel), rfl, mk_t1 191 rfl rfl⟩))) ?_
  refine kz_put X (idx := 16) (T := TX2) (Cn := RX2) (N := 2) (j := 1) rfl (by decide) (mk_t1 194 rfl rfl) rfl (tyX2_ok 1 (by decide)) (fun _ => rfl) (fun _ => rfl) (by decide) (by decide +kernel) ?_
  show kzG _ _ _ _ _ _ _ _ _ _ _ _ _ _ _ _ 0 0 [(0, 2, [.inl (-1), .inl 2147483647])] 15 []
  exact kz_ret X hr hlk (by decide +kernel)
def kzz3 : List kzU := [.inl 0, .inr none, .inr none, .inr none, .inl 0, .inr none, .inl 0, .inl 0, .inl 0, .inl 0, .inl 0, .inl 0]
def kzo3 : List kzC := [(0, 3, [.inl 0, .inr (some 1), .inr (some 2), .inr (some 3), .inl 0, .inr (some 4), .inl 0, .inl 3, .inl 120, .inl 0, .inl 0, .inl 0]), (1, 4, []), (1, 4, []), (1, 4, []), (1, 16, [])]
def kzr3 : Room := { frames := 1, cells := 4, slots := 28, locals := 20 }
theorem kzc3 {l : Launch} {τ : Nat → ClassId} {D : va_G} {tys : List (ClassId × FieldType)} (hT : kzT τ tys) : ∀ q sz : Nat, Met l yX3_init (js_ws yX3_init cX3_init 1 none) kzr3 (kzPre D tys 3 kzz3 q sz) (kzPost τ D q sz kzo3) 4 28 (kzA q sz) := by
  refine kz_met (own := 3) (n := 1) (by decide) rfl rfl (by decide) hT (by decide) ?_
  intro p e s m args below meth c ls q X L hr hlk
  refine kz_al0 X L (by decide +kernel) ?_
  refine kz_oi X L (idx := 3) (mk_t1 29 rfl rfl) (by decide +kernel) ⟨(Nat.le_of_ble_eq_true rfl), (Nat.le_of_ble_eq_true rfl)⟩ (by decide) ?_
  show kzG _ _ _ _ _ _ _ _ _ _ _ _ _ _ _ _ 0 0 [(0, 3, [.inl 0, .inr none, .inr none, .inr none, .inl 0, .inr none, .inl 0, .inl 0, .inl 0, .inl 0, .inl 0, .inl 0])] 4 []
  refine kz_al0 X L (by decide +kernel) ?_
  refine kz_k X (x := 0) (Or.inl ⟨(by decide +kernel), rfl⟩) ?_
  refine kz_put X (idx := 9) (T := TX3) (Cn := RX3) (N := 12) (j := 0) rfl (by decide) (mk_t1 30 rfl rfl) rfl (tyX3_ok 0 (by decide)) (fun _ => rfl) (fun _ => rfl) (by decide) (by decide +kernel) ?_
  show kzG _ _ _ _ _ _ _ _ _ _ _ _ _ _ _ _ 0 0 [(0, 3, [.inl 0, .inr none, .inr none, .inr none, .inl 0, .inr none, .inl 0, .inl 0, .inl 0, .inl 0, .inl 0, .inl 0])] 9 []
  refine kz_al0 X L (by decide +kernel) ?_
  refine kz_k X (x := 4) (Or.inl ⟨(by decide +kernel), rfl⟩) ?_
  refine kz_ni X (N := 4) (by decide +kernel) (by decide) (by decide) (Nat.le_of_ble_eq_true rfl) (Nat.le_of_ble_eq_true rfl) (Nat.le_of_ble_eq_true rfl) rfl ?_
  refine kz_put X (idx := 15) (T := TX3) (Cn := RX3) (N := 12) (j := 1) rfl (by decide) (mk_t1 33 rfl rfl) rfl (tyX3_ok 1 (by decide)) (fun _ => rfl) (fun _ => rfl) (by decide) (by decide +kernel) ?_
  show kzG _ _ _ _ _ _ _ _ _ _ _ _ _ _ _ _ 1 4 [(0, 3, [.inl 0, .inr (some 1), .inr none, .inr none, .inl 0, .inr none, .inl 0, .inl 0, .inl 0, .inl 0, .inl 0, .inl 0]), (1, 4, [])] 16 []
  refine kz_al0 X L (by decide +kernel) ?_
  refine kz_k X (x := 4) (Or.inl ⟨(by decide +kernel), rfl⟩) ?_
  refine kz_ni X (N := 4) (by decide +kernel) (by decide) (by decide) (Nat.le_of_ble_eq_true rfl) (Nat.le_of_ble_eq_true rfl) (Nat.le_of_ble_eq_true rfl) rfl ?_
  refine kz_put X (idx := 19) (T := TX3) (Cn := RX3) (N := 12) (j := 2) rfl (by decide) (mk_t1 36 rfl rfl) rfl (tyX3_ok 2 (by decide)) (fun _ => rfl) (fun _ => rfl) (by decide) (by decide +kernel) ?_
  show kzG _ _ _ _ _ _ _ _ _ _ _ _ _ _ _ _ 2 8 [(0, 3, [.inl 0, .inr (some 1), .inr (some 2), .inr none, .inl 0, .inr none, .inl 0, .inl 0, .inl 0, .inl 0, .inl 0, .inl 0]), (1, 4, []), (1, 4, [])] 23 []
  refine kz_al0 X L (by decide +kernel) ?_
  refine kz_k X (x := 4) (Or.inl ⟨(by decide +kernel), rfl⟩) ?_
  refine kz_ni X (N := 4) (by decide +kernel) (by decide) (by decide) (Nat.le_of_ble_eq_true rfl) (Nat.le_of_ble_eq_true rfl) (Nat.le_of_ble_eq_true rfl) rfl ?_
  refine kz_put X (idx := 22) (T := TX3) (Cn := RX3) (N := 12) (j := 3) rfl (by decide) (mk_t1 39 rfl rfl) rfl (tyX3_ok 3 (by decide)) (fun _ => rfl) (fun _ => rfl) (by decide) (by decide +kernel) ?_
  show kzG _ _ _ _ _ _ _ _ _ _ _ _ _ _ _ _ 3 12 [(0, 3, [.inl 0, .inr (some 1), .inr (some 2), .inr (some 3), .inl 0, .inr none, .inl 0, .inl 0, .inl 0, .inl 0, .inl 0, .inl 0]), (1, 4, []), (1, 4, []), (1, 4, [])] 30 []
  refine kz_al0 X L (by decide +kernel) ?_
  refine kz_k X (x := 0) (Or.inl ⟨(by decide +kernel), rfl⟩) ?_
  refine kz_put X (idx := 25) (T := TX3) (Cn := RX3) (N := 12) (j := 4) rfl (by decide) (mk_t1 41 rfl rfl) rfl (tyX3_ok 4 (by decide)) (fun _ => rfl) (fun _ => rfl) (by decide) (by decide +kernel) ?_
  show kzG _ _ _ _ _ _ _ _ _ _ _ _ _ _ _ _ 3 12 [(0, 3, [.inl 0, .inr (some 1), .inr (some 2), .inr (some 3), .inl 0, .inr none, .inl 0, .inl 0, .inl 0, .inl 0, .inl 0, .inl 0]), (1, 4, []), (1, 4, []), (1, 4, [])] 35 []
  refine kz_al0 X L (by decide +kernel) ?_
  refine kz_k X (x := 16) (Or.inr (Or.inl ⟨(by decide +kernel), rfl, by decide⟩)) ?_
  refine kz_ni X (N := 16) (by decide +kernel) (by decide) (by decide) (Nat.le_of_ble_eq_true rfl) (Nat.le_of_ble_eq_true rfl) (Nat.le_of_ble_eq_true rfl) rfl ?_
  refine kz_put X (idx := 28) (T := TX3) (Cn := RX3) (N := 12) (j := 5) rfl (by decide) (mk_t1 44 rfl rfl) rfl (tyX3_ok 5 (by decide)) (fun _ => rfl) (fun _ => rfl) (by decide) (by decide +kernel) ?_
  show kzG _ _ _ _ _ _ _ _ _ _ _ _ _ _ _ _ 4 28 [(0, 3, [.inl 0, .inr (some 1), .inr (some 2), .inr (some 3), .inl 0, .inr (some 4), .inl 0, .inl 0, .inl 0, .inl 0, .inl 0, .inl 0]), (1, 4, []), (1, 4, []), (1, 4, []), (1, 16, [])] 43 []
  refine kz_al0 X L (by decide +kernel) ?_
  refine kz_k X (x := 0) (Or.inl ⟨(by decide +kernel), rfl⟩) ?_
  refine kz_put X (idx := 31) (T := TX3) (Cn := RX3) (N := 12) (j := 6) rfl (by decide) (mk_t1 47 rfl rfl) rfl (tyX3_ok 6 (by decide)) (fun _ => rfl) (fun _ => rfl) (by decide) (by decide +kernel) ?_
  show kzG _ _ _ _ _ _ _ _ _ _ _ _ _ _ _ _ 4 28 [(0, 3, [.inl 0, .inr (some 1), .inr (some 2), .inr (some 3), .inl 0, .inr (some 4), .inl 0, .inl 0, .inl 0, .inl 0, .inl 0, .inl 0]), (1, 4, []), (1, 4, []), (1, 4, []), (1, 16, [])] 48 []
  refine kz_al0 X L (by decide +kernel) ?_
  refine kz_k X (x := 3) (Or.inl ⟨(by decide +kernel), rfl⟩) ?_
  refine kz_put X (idx := 34) (T := TX3) (Cn := RX3) (N := 12) (j := 7) rfl (by decide) (mk_t1 50 rfl rfl) rfl (tyX3_ok 7 (by decide)) (fun _ => rfl) (fun _ => rfl) (by decide) (by decide +kernel) ?_
  show kzG _ _ _ _ _ _ _ _ _ _ _ _ _ _ _ _ 4 28 [(0, 3, [.inl 0, .inr (some 1), .inr (some 2), .inr (some 3), .inl 0, .inr (some 4), .inl 0, .inl 3, .inl 0, .inl 0, .inl 0, .inl 0]), (1, 4, []), (1, 4, []), (1, 4, []), (1, 16, [])] 53 []
  refine kz_al0 X L (by decide +kernel) ?_
  refine kz_k X (x := 120) (Or.inr (Or.inl ⟨(by decide +kernel), rfl, by decide⟩)) ?_
  refine kz_put X (idx := 37) (T := TX3) (Cn := RX3) (N := 12) (j := 8) rfl (by decide) (mk_t1 53 rfl rfl) rfl (tyX3_ok 8 (by decide)) (fun _ => rfl) (fun _ => rfl) (by decide) (by decide +kernel) ?_
  show kzG _ _ _ _ _ _ _ _ _ _ _ _ _ _ _ _ 4 28 [(0, 3, [.inl 0, .inr (some 1), .inr (some 2), .inr (some 3), .inl 0, .inr (some 4), .inl 0, .inl 3, .inl 120, .inl 0, .inl 0, .inl 0]), (1, 4, []), (1, 4, []), (1, 4, []), (1, 16, [])] 59 []
  refine kz_al0 X L (by decide +kernel) ?_
  refine kz_k X (x := 0) (Or.inl ⟨(by decide +kernel), rfl⟩) ?_
  refine kz_put X (idx := 40) (T := TX3) (Cn := RX3) (N := 12) (j := 9) rfl (by decide) (mk_t1 56 rfl rfl) rfl (tyX3_ok 9 (by decide)) (fun _ => rfl) (fun _ => rfl) (by decide) (by decide +kernel) ?_
  show kzG _ _ _ _ _ _ _ _ _ _ _ _ _ _ _ _ 4 28 [(0, 3, [.inl 0, .inr (some 1), .inr (some 2), .inr (some 3), .inl 0, .inr (some 4), .inl 0, .inl 3, .inl 120, .inl 0, .inl 0, .inl 0]), (1, 4, []), (1, 4, []), (1, 4, []), (1, 16, [])] 64 []
  refine kz_al0 X L (by decide +kernel) ?_
  refine kz_k X (x := 0) (Or.inl ⟨(by decide +kernel), rfl⟩) ?_
  refine kz_put X (idx := 43) (T := TX3) (Cn := RX3) (N := 12) (j := 10) rfl (by decide) (mk_t1 58 rfl rfl) rfl (tyX3_ok 10 (by decide)) (fun _ => rfl) (fun _ => rfl) (by decide) (by decide +kernel) ?_
  show kzG _ _ _ _ _ _ _ _ _ _ _ _ _ _ _ _ 4 28 [(0, 3, [.inl 0, .inr (some 1), .inr (some 2), .inr (some 3), .inl 0, .inr (some 4), .inl 0, .inl 3, .inl 120, .inl 0, .inl 0, .inl 0]), (1, 4, []), (1, 4, []), (1, 4, []), (1, 16, [])] 69 []
  refine kz_al0 X L (by decide +kernel) ?_
  refine kz_k X (x := 0) (Or.inl ⟨(by decide +kernel), rfl⟩) ?_
  refine kz_put X (idx := 47) (T := TX3) (Cn := RX3) (N := 12) (j := 11) rfl (by decide) (mk_t1 61 rfl rfl) rfl (tyX3_ok 11 (by decide)) (fun _ => rfl) (fun _ => rfl) (by decide) (by decide +kernel) ?_
  show kzG _ _ _ _ _ _ _ _ _ _ _ _ _ _ _ _ 4 28 [(0, 3, [.inl 0, .inr (some 1), .inr (some 2), .inr (some 3), .inl 0, .inr (some 4), .inl 0, .inl 3, .inl 120, .inl 0, .inl 0, .inl 0]), (1, 4, []), (1, 4, []), (1, 4, []), (1, 16, [])] 74 []
  exact kz_ret X hr hlk (by decide +kernel)
def kzz4 : List kzU := [.inl 0, .inl 0, .inr none]
def kzo4 : List kzC := [(0, 4, [.inl (-1), .inl 0, .inr (some 1)]), (1, 40, [])]
def kzr4 : Room := { frames := 1, cells := 1, slots := 40, locals := 20 }
theorem kzc4 {l : Launch} {τ : Nat → ClassId} {D : va_G} {tys : List (ClassId × FieldType)} (hT : kzT τ tys) : ∀ q sz : Nat, Met l yX4_init (js_ws yX4_init cX4_init 1 none) kzr4 (kzPre D tys 4 kzz4 q sz) (kzPost τ D q sz kzo4) 1 40 (kzA q sz) := by
  refine kz_met (own := 4) (n := 1) (by decide) rfl rfl (by decide) hT (by decide) ?_
  intro p e s m args below meth c ls q X L hr hlk
  refine kz_al0 X L (by decide +kernel) ?_
  refine kz_oi X L (idx := 3) (mk_t2 11 rfl rfl) (by decide +kernel) ⟨(Nat.le_of_ble_eq_true rfl), (Nat.le_of_ble_eq_true rfl)⟩ (by decide) ?_
  show kzG _ _ _ _ _ _ _ _ _ _ _ _ _ _ _ _ 0 0 [(0, 4, [.inl 0, .inl 0, .inr none])] 4 []
  refine kz_al0 X L (by decide +kernel) ?_
  refine kz_k X (x := -1) (Or.inl ⟨(by decide +kernel), rfl⟩) ?_
  refine kz_put X (idx := 9) (T := TX4) (Cn := RX4) (N := 3) (j := 0) rfl (by decide) (mk_t2 12 rfl rfl) rfl (tyX4_ok 0 (by decide)) (fun _ => rfl) (fun _ => rfl) (by decide) (by decide +kernel) ?_
  show kzG _ _ _ _ _ _ _ _ _ _ _ _ _ _ _ _ 0 0 [(0, 4, [.inl (-1), .inl 0, .inr none])] 9 []
  refine kz_al0 X L (by decide +kernel) ?_
  refine kz_k X (x := 0) (Or.inl ⟨(by decide +kernel), rfl⟩) ?_
  refine kz_put X (idx := 15) (T := TX4) (Cn := RX4) (N := 3) (j := 1) rfl (by decide) (mk_t2 14 rfl rfl) rfl (tyX4_ok 1 (by decide)) (fun _ => rfl) (fun _ => rfl) (by decide) (by decide +kernel) ?_
  show kzG _ _ _ _ _ _ _ _ _ _ _ _ _ _ _ _ 0 0 [(0, 4, [.inl (-1), .inl 0, .inr none])] 14 []
  refine kz_al0 X L (by decide +kernel) ?_
  refine kz_k X (x := 40) (Or.inr (Or.inl ⟨(by decide +kernel), rfl, by decide⟩)) ?_
  refine kz_ni X (N := 40) (by decide +kernel) (by decide) (by decide) (Nat.le_of_ble_eq_true rfl) (Nat.le_of_ble_eq_true rfl) (Nat.le_of_ble_eq_true rfl) rfl ?_
  refine kz_put X (idx := 18) (T := TX4) (Cn := RX4) (N := 3) (j := 2) rfl (by decide) (mk_t2 16 rfl rfl) rfl (tyX4_ok 2 (by decide)) (fun _ => rfl) (fun _ => rfl) (by decide) (by decide +kernel) ?_
  show kzG _ _ _ _ _ _ _ _ _ _ _ _ _ _ _ _ 1 40 [(0, 4, [.inl (-1), .inl 0, .inr (some 1)]), (1, 40, [])] 22 []
  exact kz_ret X hr hlk (by decide +kernel)
def kzz5 : List kzU := [.inr none, .inl 0, .inr none, .inr none, .inl 0, .inl 0, .inl 0, .inl 0, .inl 0]
def kzo5 : List kzC := [(0, 5, [.inr (some 1), .inl 0, .inr (some 2), .inr (some 3), .inl 0, .inl 0, .inl 0, .inl 14, .inl 0]), (1, 160, []), (1, 160, []), (1, 3, [])]
def kzr5 : Room := { frames := 1, cells := 3, slots := 323, locals := 20 }
theorem kzc5 {l : Launch} {τ : Nat → ClassId} {D : va_G} {tys : List (ClassId × FieldType)} (hT : kzT τ tys) : ∀ q sz : Nat, Met l yX5_init (js_ws yX5_init cX5_init 1 none) kzr5 (kzPre D tys 5 kzz5 q sz) (kzPost τ D q sz kzo5) 3 323 (kzA q sz) := by
  refine kz_met (own := 5) (n := 1) (by decide) rfl rfl (by decide) hT (by decide) ?_
  intro p e s m args below meth c ls q X L hr hlk
  refine kz_al0 X L (by decide +kernel) ?_
  refine kz_oi X L (idx := 3) (mk_t1 99 rfl rfl) (by decide +kernel) ⟨(Nat.le_of_ble_eq_true rfl), (Nat.le_of_ble_eq_true rfl)⟩ (by decide) ?_
  show kzG _ _ _ _ _ _ _ _ _ _ _ _ _ _ _ _ 0 0 [(0, 5, [.inr none, .inl 0, .inr none, .inr none, .inl 0, .inl 0, .inl 0, .inl 0, .inl 0])] 4 []
  refine kz_al0 X L (by decide +kernel) ?_
  refine kz_k X (x := 160) (Or.inr (Or.inr (Or.inl ⟨(by decide +kernel), rfl, by decide⟩))) ?_
  refine kz_ni X (N := 160) (by decide +kernel) (by decide) (by decide) (Nat.le_of_ble_eq_true rfl) (Nat.le_of_ble_eq_true rfl) (Nat.le_of_ble_eq_true rfl) rfl ?_
  refine kz_put X (idx := 9) (T := TX5) (Cn := RX5) (N := 9) (j := 0) rfl (by decide) (mk_t1 100 rfl rfl) rfl (tyX5_ok 0 (by decide)) (fun _ => rfl) (fun _ => rfl) (by decide) (by decide +kernel) ?_
  show kzG _ _ _ _ _ _ _ _ _ _ _ _ _ _ _ _ 1 160 [(0, 5, [.inr (some 1), .inl 0, .inr none, .inr none, .inl 0, .inl 0, .inl 0, .inl 0, .inl 0]), (1, 160, [])] 13 []
  refine kz_al0 X L (by decide +kernel) ?_
  refine kz_k X (x := 0) (Or.inl ⟨(by decide +kernel), rfl⟩) ?_
  refine kz_put X (idx := 15) (T := TX5) (Cn := RX5) (N := 9) (j := 1) rfl (by decide) (mk_t1 101 rfl rfl) rfl (tyX5_ok 1 (by decide)) (fun _ => rfl) (fun _ => rfl) (by decide) (by decide +kernel) ?_
  show kzG _ _ _ _ _ _ _ _ _ _ _ _ _ _ _ _ 1 160 [(0, 5, [.inr (some 1), .inl 0, .inr none, .inr none, .inl 0, .inl 0, .inl 0, .inl 0, .inl 0]), (1, 160, [])] 18 []
  refine kz_al0 X L (by decide +kernel) ?_
  refine kz_k X (x := 160) (Or.inr (Or.inr (Or.inl ⟨(by decide +kernel), rfl, by decide⟩))) ?_
  refine kz_ni X (N := 160) (by decide +kernel) (by decide) (by decide) (Nat.le_of_ble_eq_true rfl) (Nat.le_of_ble_eq_true rfl) (Nat.le_of_ble_eq_true rfl) rfl ?_
  refine kz_put X (idx := 19) (T := TX5) (Cn := RX5) (N := 9) (j := 2) rfl (by decide) (mk_t1 103 rfl rfl) rfl (tyX5_ok 2 (by decide)) (fun _ => rfl) (fun _ => rfl) (by decide) (by decide +kernel) ?_
  show kzG _ _ _ _ _ _ _ _ _ _ _ _ _ _ _ _ 2 320 [(0, 5, [.inr (some 1), .inl 0, .inr (some 2), .inr none, .inl 0, .inl 0, .inl 0, .inl 0, .inl 0]), (1, 160, []), (1, 160, [])] 27 []
  refine kz_al0 X L (by decide +kernel) ?_
  refine kz_k X (x := 3) (Or.inl ⟨(by decide +kernel), rfl⟩) ?_
  refine kz_ni X (N := 3) (by decide +kernel) (by decide) (by decide) (Nat.le_of_ble_eq_true rfl) (Nat.le_of_ble_eq_true rfl) (Nat.le_of_ble_eq_true rfl) rfl ?_
  refine kz_put X (idx := 24) (T := TX5) (Cn := RX5) (N := 9) (j := 3) rfl (by decide) (mk_t1 105 rfl rfl) rfl (tyX5_ok 3 (by decide)) (fun _ => rfl) (fun _ => rfl) (by decide) (by decide +kernel) ?_
  show kzG _ _ _ _ _ _ _ _ _ _ _ _ _ _ _ _ 3 323 [(0, 5, [.inr (some 1), .inl 0, .inr (some 2), .inr (some 3), .inl 0, .inl 0, .inl 0, .inl 0, .inl 0]), (1, 160, []), (1, 160, []), (1, 3, [])] 34 []
  refine kz_al0 X L (by decide +kernel) ?_
  refine kz_k X (x := 0) (Or.inl ⟨(by decide +kernel), rfl⟩) ?_
  refine kz_put X (idx := 27) (T := TX5) (Cn := RX5) (N := 9) (j := 4) rfl (by decide) (mk_t1 107 rfl rfl) rfl (tyX5_ok 4 (by decide)) (fun _ => rfl) (fun _ => rfl) (by decide) (by decide +kernel) ?_
  show kzG _ _ _ _ _ _ _ _ _ _ _ _ _ _ _ _ 3 323 [(0, 5, [.inr (some 1), .inl 0, .inr (some 2), .inr (some 3), .inl 0, .inl 0, .inl 0, .inl 0, .inl 0]), (1, 160, []), (1, 160, []), (1, 3, [])] 39 []
  refine kz_al0 X L (by decide +kernel) ?_
  refine kz_k X (x := 0) (Or.inl ⟨(by decide +kernel), rfl⟩) ?_
  refine kz_put X (idx := 30) (T := TX5) (Cn := RX5) (N := 9) (j := 5) rfl (by decide) (mk_t1 108 rfl rfl) rfl (tyX5_ok 5 (by decide)) (fun _ => rfl) (fun _ => rfl) (by decide) (by decide +kernel) ?_
  show kzG _ _ _ _ _ _ _ _ _ _ _ _ _ _ _ _ 3 323 [(0, 5, [.inr (some 1), .inl 0, .inr (some 2), .inr (some 3), .inl 0, .inl 0, .inl 0, .inl 0, .inl 0]), (1, 160, []), (1, 160, []), (1, 3, [])] 44 []
  refine kz_al0 X L (by decide +kernel) ?_
  refine kz_k X (x := 0) (Or.inl ⟨(by decide +kernel), rfl⟩) ?_
  refine kz_put X (idx := 33) (T := TX5) (Cn := RX5) (N := 9) (j := 6) rfl (by decide) (mk_t1 109 rfl rfl) rfl (tyX5_ok 6 (by decide)) (fun _ => rfl) (fun _ => rfl) (by decide) (by decide +kernel) ?_
  show kzG _ _ _ _ _ _ _ _ _ _ _ _ _ _ _ _ 3 323 [(0, 5, [.inr (some 1), .inl 0, .inr (some 2), .inr (some 3), .inl 0, .inl 0, .inl 0, .inl 0, .inl 0]), (1, 160, []), (1, 160, []), (1, 3, [])] 49 []
  refine kz_al0 X L (by decide +kernel) ?_
  refine kz_k X (x := 14) (Or.inr (Or.inl ⟨(by decide +kernel), rfl, by decide⟩)) ?_
  refine kz_put X (idx := 36) (T := TX5) (Cn := RX5) (N := 9) (j := 7) rfl (by decide) (mk_t1 110 rfl rfl) rfl (tyX5_ok 7 (by decide)) (fun _ => rfl) (fun _ => rfl) (by decide) (by decide +kernel) ?_
  show kzG _ _ _ _ _ _ _ _ _ _ _ _ _ _ _ _ 3 323 [(0, 5, [.inr (some 1), .inl 0, .inr (some 2), .inr (some 3), .inl 0, .inl 0, .inl 0, .inl 14, .inl 0]), (1, 160, []), (1, 160, []), (1, 3, [])] 55 []
  refine kz_al0 X L (by decide +kernel) ?_
  refine kz_k X (x := 0) (Or.inl ⟨(by decide +kernel), rfl⟩) ?_
  refine kz_put X (idx := 39) (T := TX5) (Cn := RX5) (N := 9) (j := 8) rfl (by decide) (mk_t1 111 rfl rfl) rfl (tyX5_ok 8 (by decide)) (fun _ => rfl) (fun _ => rfl) (by decide) (by decide +kernel) ?_
  show kzG _ _ _ _ _ _ _ _ _ _ _ _ _ _ _ _ 3 323 [(0, 5, [.inr (some 1), .inl 0, .inr (some 2), .inr (some 3), .inl 0, .inl 0, .inl 0, .inl 14, .inl 0]), (1, 160, []), (1, 160, []), (1, 3, [])] 60 []
  exact kz_ret X hr hlk (by decide +kernel)
def kzz6 : List kzU := [.inr none, .inr none, .inr none, .inr none]
def kzo6 : List kzC := [(0, 6, [.inr (some 1), .inr (some 2), .inr (some 3), .inr (some 4)]), (1, 160, []), (1, 3, []), (1, 32, []), (1, 6, [])]
def kzr6 : Room := { frames := 1, cells := 4, slots := 201, locals := 20 }
theorem kzc6 {l : Launch} {τ : Nat → ClassId} {D : va_G} {tys : List (ClassId × FieldType)} (hT : kzT τ tys) : ∀ q sz : Nat, Met l yX6_init (js_ws yX6_init cX6_init 1 none) kzr6 (kzPre D tys 6 kzz6 q sz) (kzPost τ D q sz kzo6) 4 201 (kzA q sz) := by
  refine kz_met (own := 6) (n := 1) (by decide) rfl rfl (by decide) hT (by decide) ?_
  intro p e s m args below meth c ls q X L hr hlk
  refine kz_al0 X L (by decide +kernel) ?_
  refine kz_oi X L (idx := 3) (mk_t1 233 rfl rfl) (by decide +kernel) ⟨(Nat.le_of_ble_eq_true rfl), (Nat.le_of_ble_eq_true rfl)⟩ (by decide) ?_
  show kzG _ _ _ _ _ _ _ _ _ _ _ _ _ _ _ _ 0 0 [(0, 6, [.inr none, .inr none, .inr none, .inr none])] 4 []
  refine kz_al0 X L (by decide +kernel) ?_
  refine kz_k X (x := 160) (Or.inr (Or.inr (Or.inl ⟨(by decide +kernel), rfl, by decide⟩))) ?_
  refine kz_ni X (N := 160) (by decide +kernel) (by decide) (by decide) (Nat.le_of_ble_eq_true rfl) (Nat.le_of_ble_eq_true rfl) (Nat.le_of_ble_eq_true rfl) rfl ?_
  refine kz_put X (idx := 9) (T := TX6) (Cn := RX6) (N := 4) (j := 0) rfl (by decide) (mk_t1 234 rfl rfl) rfl (tyX6_ok 0 (by decide)) (fun _ => rfl) (fun _ => rfl) (by decide) (by decide +kernel) ?_
  show kzG _ _ _ _ _ _ _ _ _ _ _ _ _ _ _ _ 1 160 [(0, 6, [.inr (some 1), .inr none, .inr none, .inr none]), (1, 160, [])] 13 []
  refine kz_al0 X L (by decide +kernel) ?_
  refine kz_k X (x := 3) (Or.inl ⟨(by decide +kernel), rfl⟩) ?_
  refine kz_ni X (N := 3) (by decide +kernel) (by decide) (by decide) (Nat.le_of_ble_eq_true rfl) (Nat.le_of_ble_eq_true rfl) (Nat.le_of_ble_eq_true rfl) rfl ?_
  refine kz_put X (idx := 15) (T := TX6) (Cn := RX6) (N := 4) (j := 1) rfl (by decide) (mk_t1 235 rfl rfl) rfl (tyX6_ok 1 (by decide)) (fun _ => rfl) (fun _ => rfl) (by decide) (by decide +kernel) ?_
  show kzG _ _ _ _ _ _ _ _ _ _ _ _ _ _ _ _ 2 163 [(0, 6, [.inr (some 1), .inr (some 2), .inr none, .inr none]), (1, 160, []), (1, 3, [])] 20 []
  refine kz_al0 X L (by decide +kernel) ?_
  refine kz_k X (x := 32) (Or.inr (Or.inl ⟨(by decide +kernel), rfl, by decide⟩)) ?_
  refine kz_ni X (N := 32) (by decide +kernel) (by decide) (by decide) (Nat.le_of_ble_eq_true rfl) (Nat.le_of_ble_eq_true rfl) (Nat.le_of_ble_eq_true rfl) rfl ?_
  refine kz_put X (idx := 18) (T := TX6) (Cn := RX6) (N := 4) (j := 2) rfl (by decide) (mk_t1 236 rfl rfl) rfl (tyX6_ok 2 (by decide)) (fun _ => rfl) (fun _ => rfl) (by decide) (by decide +kernel) ?_
  show kzG _ _ _ _ _ _ _ _ _ _ _ _ _ _ _ _ 3 195 [(0, 6, [.inr (some 1), .inr (some 2), .inr (some 3), .inr none]), (1, 160, []), (1, 3, []), (1, 32, [])] 28 []
  refine kz_al0 X L (by decide +kernel) ?_
  refine kz_k X (x := 6) (Or.inr (Or.inl ⟨(by decide +kernel), rfl, by decide⟩)) ?_
  refine kz_ni X (N := 6) (by decide +kernel) (by decide) (by decide) (Nat.le_of_ble_eq_true rfl) (Nat.le_of_ble_eq_true rfl) (Nat.le_of_ble_eq_true rfl) rfl ?_
  refine kz_put X (idx := 21) (T := TX6) (Cn := RX6) (N := 4) (j := 3) rfl (by decide) (mk_t1 237 rfl rfl) rfl (tyX6_ok 3 (by decide)) (fun _ => rfl) (fun _ => rfl) (by decide) (by decide +kernel) ?_
  show kzG _ _ _ _ _ _ _ _ _ _ _ _ _ _ _ _ 4 201 [(0, 6, [.inr (some 1), .inr (some 2), .inr (some 3), .inr (some 4)]), (1, 160, []), (1, 3, []), (1, 32, []), (1, 6, [])] 36 []
  exact kz_ret X hr hlk (by decide +kernel)
def kzz1 : List kzU := [.inr none, .inr none, .inr none, .inr none, .inr none, .inr none, .inr none, .inr none, .inr none, .inr none, .inl 0, .inl 0]
def kzo1 : List kzC := [(0, 1, [.inr (some 1), .inr (some 6), .inr (some 7), .inr (some 8), .inr (some 9), .inr (some 10), .inr (some 11), .inr (some 12), .inr (some 13), .inr (some 14), .inl 0, .inl 0]), (0, 3, [.inl 0, .inr (some 2), .inr (some 3), .inr (some 4), .inl 0, .inr (some 5), .inl 0, .inl 3, .inl 120, .inl 0, .inl 0, .inl 0]), (1, 4, []), (1, 4, []), (1, 4, []), (1, 16, []), (1, 16, []), (1, 16, []), (1, 16, []), (1, 16, []), (1, 16, []), (1, 4, []), (1, 16, []), (1, 4, []), (1, 16, [])]
def kzr1 : Room := { frames := 2, cells := 14, slots := 160, locals := 60 }
theorem kzc1 {l : Launch} {τ : Nat → ClassId} {D : va_G} {tys : List (ClassId × FieldType)} (hT : kzT τ tys) : ∀ q sz : Nat, Met l yX1_init (js_ws yX1_init cX1_init 1 none) kzr1 (kzPre D tys 1 kzz1 q sz) (kzPost τ D q sz kzo1) 14 160 (kzA q sz) := by
  refine kz_met (own := 1) (n := 1) (by decide) rfl rfl (by decide) hT (by decide) ?_
  intro p e s m args below meth c ls q X L hr hlk
  refine kz_al0 X L (by decide +kernel) ?_
  refine kz_oi X L (idx := 3) (mk_t1 138 rfl rfl) (by decide +kernel) ⟨(Nat.le_of_ble_eq_true rfl), (Nat.le_of_ble_eq_true rfl)⟩ (by decide) ?_
  show kzG _ _ _ _ _ _ _ _ _ _ _ _ _ _ _ _ 0 0 [(0, 1, [.inr none, .inr none, .inr none, .inr none, .inr none, .inr none, .inr none, .inr none, .inr none, .inr none, .inl 0, .inl 0])] 4 []
  refine kz_al0 X L (by decide +kernel) ?_
  refine kz_mk X L (ci := 3) (T := TX3) (Cn := RX3) (N := 12) (idx := 9) (idx2 := 11) (out := kzo3) (z := kzz3) rfl tyX3_ok (by decide +kernel) rfl (kzc3 X.2.2.2.2.2.2.2.1) rfl rfl (mk_t1 139 rfl rfl) (mk_t1 25 rfl rfl) (mk_t1 2 rfl rfl) rfl rfl (by decide) (mk_t1 27 rfl rfl) (mk_t1 28 rfl rfl) ⟨by decide, by decide, by decide +kernel⟩ ⟨(Nat.le_of_ble_eq_true rfl), (Nat.le_of_ble_eq_true rfl)⟩ ⟨(Nat.le_of_ble_eq_true rfl), (Nat.le_of_ble_eq_true rfl)⟩ (by decide) (by decide +kernel) (by decide +kernel) (by decide +kernel) rfl ?_
  show kzG _ _ _ _ _ _ _ _ _ _ _ _ _ _ _ _ 5 40 [(0, 1, [.inr none, .inr none, .inr none, .inr none, .inr none, .inr none, .inr none, .inr none, .inr none, .inr none, .inl 0, .inl 0]), (0, 3, [.inl 0, .inr (some 2), .inr (some 3), .inr (some 4), .inl 0, .inr (some 5), .inl 0, .inl 3, .inl 120, .inl 0, .inl 0, .inl 0]), (1, 4, []), (1, 4, []), (1, 4, []), (1, 16, [])] 12 [.inr (some 1), .inr (some 0)]
  refine kz_put X (idx := 12) (T := TX1) (Cn := RX1) (N := 12) (j := 0) rfl (by decide) (mk_t1 141 rfl rfl) rfl (tyX1_ok 0 (by decide)) (fun _ => rfl) (fun _ => rfl) (by decide) (by decide +kernel) ?_
  show kzG _ _ _ _ _ _ _ _ _ _ _ _ _ _ _ _ 5 40 [(0, 1, [.inr (some 1), .inr none, .inr none, .inr none, .inr none, .inr none, .inr none, .inr none, .inr none, .inr none, .inl 0, .inl 0]), (0, 3, [.inl 0, .inr (some 2), .inr (some 3), .inr (some 4), .inl 0, .inr (some 5), .inl 0, .inl 3, .inl 120, .inl 0, .inl 0, .inl 0]), (1, 4, []), (1, 4, []), (1, 4, []), (1, 16, [])] 15 []
  refine kz_al0 X L (by decide +kernel) ?_
  refine kz_k X (x := 16) (Or.inr (Or.inl ⟨(by decide +kernel), rfl, by decide⟩)) ?_
  refine kz_ni X (N := 16) (by decide +kernel) (by decide) (by decide) (Nat.le_of_ble_eq_true rfl) (Nat.le_of_ble_eq_true rfl) (Nat.le_of_ble_eq_true rfl) rfl ?_
  refine kz_put X (idx := 18) (T := TX1) (Cn := RX1) (N := 12) (j := 1) rfl (by decide) (mk_t1 143 rfl rfl) rfl (tyX1_ok 1 (by decide)) (fun _ => rfl) (fun _ => rfl) (by decide) (by decide +kernel) ?_
  show kzG _ _ _ _ _ _ _ _ _ _ _ _ _ _ _ _ 6 56 [(0, 1, [.inr (some 1), .inr (some 6), .inr none, .inr none, .inr none, .inr none, .inr none, .inr none, .inr none, .inr none, .inl 0, .inl 0]), (0, 3, [.inl 0, .inr (some 2), .inr (some 3), .inr (some 4), .inl 0, .inr (some 5), .inl 0, .inl 3, .inl 120, .inl 0, .inl 0, .inl 0]), (1, 4, []), (1, 4, []), (1, 4, []), (1, 16, []), (1, 16, [])] 23 []
  refine kz_al0 X L (by decide +kernel) ?_
  refine kz_k X (x := 16) (Or.inr (Or.inl ⟨(by decide +kernel), rfl, by decide⟩)) ?_
  refine kz_ni X (N := 16) (by decide +kernel) (by decide) (by decide) (Nat.le_of_ble_eq_true rfl) (Nat.le_of_ble_eq_true rfl) (Nat.le_of_ble_eq_true rfl) rfl ?_
  refine kz_put X (idx := 22) (T := TX1) (Cn := RX1) (N := 12) (j := 2) rfl (by decide) (mk_t1 145 rfl rfl) rfl (tyX1_ok 2 (by decide)) (fun _ => rfl) (fun _ => rfl) (by decide) (by decide +kernel) ?_
  show kzG _ _ _ _ _ _ _ _ _ _ _ _ _ _ _ _ 7 72 [(0, 1, [.inr (some 1), .inr (some 6), .inr (some 7), .inr none, .inr none, .inr none, .inr none, .inr none, .inr none, .inr none, .inl 0, .inl 0]), (0, 3, [.inl 0, .inr (some 2), .inr (some 3), .inr (some 4), .inl 0, .inr (some 5), .inl 0, .inl 3, .inl 120, .inl 0, .inl 0, .inl 0]), (1, 4, []), (1, 4, []), (1, 4, []), (1, 16, []), (1, 16, []), (1, 16, [])] 31 []
  refine kz_al0 X L (by decide +kernel) ?_
  refine kz_k X (x := 16) (Or.inr (Or.inl ⟨(by decide +kernel), rfl, by decide⟩)) ?_
  refine kz_ni X (N := 16) (by decide +kernel) (by decide) (by decide) (Nat.le_of_ble_eq_true rfl) (Nat.le_of_ble_eq_true rfl) (Nat.le_of_ble_eq_true rfl) rfl ?_
  refine kz_put X (idx := 25) (T := TX1) (Cn := RX1) (N := 12) (j := 3) rfl (by decide) (mk_t1 147 rfl rfl) rfl (tyX1_ok 3 (by decide)) (fun _ => rfl) (fun _ => rfl) (by decide) (by decide +kernel) ?_
  show kzG _ _ _ _ _ _ _ _ _ _ _ _ _ _ _ _ 8 88 [(0, 1, [.inr (some 1), .inr (some 6), .inr (some 7), .inr (some 8), .inr none, .inr none, .inr none, .inr none, .inr none, .inr none, .inl 0, .inl 0]), (0, 3, [.inl 0, .inr (some 2), .inr (some 3), .inr (some 4), .inl 0, .inr (some 5), .inl 0, .inl 3, .inl 120, .inl 0, .inl 0, .inl 0]), (1, 4, []), (1, 4, []), (1, 4, []), (1, 16, []), (1, 16, []), (1, 16, []), (1, 16, [])] 39 []
  refine kz_al0 X L (by decide +kernel) ?_
  refine kz_k X (x := 16) (Or.inr (Or.inl ⟨(by decide +kernel), rfl, by decide⟩)) ?_
  refine kz_ni X (N := 16) (by decide +kernel) (by decide) (by decide) (Nat.le_of_ble_eq_true rfl) (Nat.le_of_ble_eq_true rfl) (Nat.le_of_ble_eq_true rfl) rfl ?_
  refine kz_put X (idx := 28) (T := TX1) (Cn := RX1) (N := 12) (j := 4) rfl (by decide) (mk_t1 149 rfl rfl) rfl (tyX1_ok 4 (by decide)) (fun _ => rfl) (fun _ => rfl) (by decide) (by decide +kernel) ?_
  show kzG _ _ _ _ _ _ _ _ _ _ _ _ _ _ _ _ 9 104 [(0, 1, [.inr (some 1), .inr (some 6), .inr (some 7), .inr (some 8), .inr (some 9), .inr none, .inr none, .inr none, .inr none, .inr none, .inl 0, .inl 0]), (0, 3, [.inl 0, .inr (some 2), .inr (some 3), .inr (some 4), .inl 0, .inr (some 5), .inl 0, .inl 3, .inl 120, .inl 0, .inl 0, .inl 0]), (1, 4, []), (1, 4, []), (1, 4, []), (1, 16, []), (1, 16, []), (1, 16, []), (1, 16, []), (1, 16, [])] 47 []
  refine kz_al0 X L (by decide +kernel) ?_
  refine kz_k X (x := 16) (Or.inr (Or.inl ⟨(by decide +kernel), rfl, by decide⟩)) ?_
  refine kz_ni X (N := 16) (by decide +kernel) (by decide) (by decide) (Nat.le_of_ble_eq_true rfl) (Nat.le_of_ble_eq_true rfl) (Nat.le_of_ble_eq_true rfl) rfl ?_
  refine kz_put X (idx := 31) (T := TX1) (Cn := RX1) (N := 12) (j := 5) rfl (by decide) (mk_t1 151 rfl rfl) rfl (tyX1_ok 5 (by decide)) (fun _ => rfl) (fun _ => rfl) (by decide) (by decide +kernel) ?_
  show kzG _ _ _ _ _ _ _ _ _ _ _ _ _ _ _ _ 10 120 [(0, 1, [.inr (some 1), .inr (some 6), .inr (some 7), .inr (some 8), .inr (some 9), .inr (some 10), .inr none, .inr none, .inr none, .inr none, .inl 0, .inl 0]), (0, 3, [.inl 0, .inr (some 2), .inr (some 3), .inr (some 4), .inl 0, .inr (some 5), .inl 0, .inl 3, .inl 120, .inl 0, .inl 0, .inl 0]), (1, 4, []), (1, 4, []), (1, 4, []), (1, 16, []), (1, 16, []), (1, 16, []), (1, 16, []), (1, 16, []), (1, 16, [])] 55 []
  refine kz_al0 X L (by decide +kernel) ?_
  refine kz_k X (x := 4) (Or.inl ⟨(by decide +kernel), rfl⟩) ?_
  refine kz_ni X (N := 4) (by decide +kernel) (by decide) (by decide) (Nat.le_of_ble_eq_true rfl) (Nat.le_of_ble_eq_true rfl) (Nat.le_of_ble_eq_true rfl) rfl ?_
  refine kz_put X (idx := 34) (T := TX1) (Cn := RX1) (N := 12) (j := 6) rfl (by decide) (mk_t1 153 rfl rfl) rfl (tyX1_ok 6 (by decide)) (fun _ => rfl) (fun _ => rfl) (by decide) (by decide +kernel) ?_
  show kzG _ _ _ _ _ _ _ _ _ _ _ _ _ _ _ _ 11 124 [(0, 1, [.inr (some 1), .inr (some 6), .inr (some 7), .inr (some 8), .inr (some 9), .inr (some 10), .inr (some 11), .inr none, .inr none, .inr none, .inl 0, .inl 0]), (0, 3, [.inl 0, .inr (some 2), .inr (some 3), .inr (some 4), .inl 0, .inr (some 5), .inl 0, .inl 3, .inl 120, .inl 0, .inl 0, .inl 0]), (1, 4, []), (1, 4, []), (1, 4, []), (1, 16, []), (1, 16, []), (1, 16, []), (1, 16, []), (1, 16, []), (1, 16, []), (1, 4, [])] 62 []
  refine kz_al0 X L (by decide +kernel) ?_
  refine kz_k X (x := 16) (Or.inr (Or.inl ⟨(by decide +kernel), rfl, by decide⟩)) ?_
  refine kz_ni X (N := 16) (by decide +kernel) (by decide) (by decide) (Nat.le_of_ble_eq_true rfl) (Nat.le_of_ble_eq_true rfl) (Nat.le_of_ble_eq_true rfl) rfl ?_
  refine kz_put X (idx := 37) (T := TX1) (Cn := RX1) (N := 12) (j := 7) rfl (by decide) (mk_t1 155 rfl rfl) rfl (tyX1_ok 7 (by decide)) (fun _ => rfl) (fun _ => rfl) (by decide) (by decide +kernel) ?_
  show kzG _ _ _ _ _ _ _ _ _ _ _ _ _ _ _ _ 12 140 [(0, 1, [.inr (some 1), .inr (some 6), .inr (some 7), .inr (some 8), .inr (some 9), .inr (some 10), .inr (some 11), .inr (some 12), .inr none, .inr none, .inl 0, .inl 0]), (0, 3, [.inl 0, .inr (some 2), .inr (some 3), .inr (some 4), .inl 0, .inr (some 5), .inl 0, .inl 3, .inl 120, .inl 0, .inl 0, .inl 0]), (1, 4, []), (1, 4, []), (1, 4, []), (1, 16, []), (1, 16, []), (1, 16, []), (1, 16, []), (1, 16, []), (1, 16, []), (1, 4, []), (1, 16, [])] 70 []
  refine kz_al0 X L (by decide +kernel) ?_
  refine kz_k X (x := 4) (Or.inl ⟨(by decide +kernel), rfl⟩) ?_
  refine kz_ni X (N := 4) (by decide +kernel) (by decide) (by decide) (Nat.le_of_ble_eq_true rfl) (Nat.le_of_ble_eq_true rfl) (Nat.le_of_ble_eq_true rfl) rfl ?_
  refine kz_put X (idx := 40) (T := TX1) (Cn := RX1) (N := 12) (j := 8) rfl (by decide) (mk_t1 156 rfl rfl) rfl (tyX1_ok 8 (by decide)) (fun _ => rfl) (fun _ => rfl) (by decide) (by decide +kernel) ?_
  show kzG _ _ _ _ _ _ _ _ _ _ _ _ _ _ _ _ 13 144 [(0, 1, [.inr (some 1), .inr (some 6), .inr (some 7), .inr (some 8), .inr (some 9), .inr (some 10), .inr (some 11), .inr (some 12), .inr (some 13), .inr none, .inl 0, .inl 0]), (0, 3, [.inl 0, .inr (some 2), .inr (some 3), .inr (some 4), .inl 0, .inr (some 5), .inl 0, .inl 3, .inl 120, .inl 0, .inl 0, .inl 0]), (1, 4, []), (1, 4, []), (1, 4, []), (1, 16, []), (1, 16, []), (1, 16, []), (1, 16, []), (1, 16, []), (1, 16, []), (1, 4, []), (1, 16, []), (1, 4, [])] 77 []
  refine kz_al0 X L (by decide +kernel) ?_
  refine kz_k X (x := 16) (Or.inr (Or.inl ⟨(by decide +kernel), rfl, by decide⟩)) ?_
  refine kz_ni X (N := 16) (by decide +kernel) (by decide) (by decide) (Nat.le_of_ble_eq_true rfl) (Nat.le_of_ble_eq_true rfl) (Nat.le_of_ble_eq_true rfl) rfl ?_
  refine kz_put X (idx := 43) (T := TX1) (Cn := RX1) (N := 12) (j := 9) rfl (by decide) (mk_t1 157 rfl rfl) rfl (tyX1_ok 9 (by decide)) (fun _ => rfl) (fun _ => rfl) (by decide) (by decide +kernel) ?_
  show kzG _ _ _ _ _ _ _ _ _ _ _ _ _ _ _ _ 14 160 [(0, 1, [.inr (some 1), .inr (some 6), .inr (some 7), .inr (some 8), .inr (some 9), .inr (some 10), .inr (some 11), .inr (some 12), .inr (some 13), .inr (some 14), .inl 0, .inl 0]), (0, 3, [.inl 0, .inr (some 2), .inr (some 3), .inr (some 4), .inl 0, .inr (some 5), .inl 0, .inl 3, .inl 120, .inl 0, .inl 0, .inl 0]), (1, 4, []), (1, 4, []), (1, 4, []), (1, 16, []), (1, 16, []), (1, 16, []), (1, 16, []), (1, 16, []), (1, 16, []), (1, 4, []), (1, 16, []), (1, 4, []), (1, 16, [])] 85 []
  refine kz_al0 X L (by decide +kernel) ?_
  refine kz_k X (x := 0) (Or.inl ⟨(by decide +kernel), rfl⟩) ?_
  refine kz_put X (idx := 46) (T := TX1) (Cn := RX1) (N := 12) (j := 10) rfl (by decide) (mk_t1 158 rfl rfl) rfl (tyX1_ok 10 (by decide)) (fun _ => rfl) (fun _ => rfl) (by decide) (by decide +kernel) ?_
  show kzG _ _ _ _ _ _ _ _ _ _ _ _ _ _ _ _ 14 160 [(0, 1, [.inr (some 1), .inr (some 6), .inr (some 7), .inr (some 8), .inr (some 9), .inr (some 10), .inr (some 11), .inr (some 12), .inr (some 13), .inr (some 14), .inl 0, .inl 0]), (0, 3, [.inl 0, .inr (some 2), .inr (some 3), .inr (some 4), .inl 0, .inr (some 5), .inl 0, .inl 3, .inl 120, .inl 0, .inl 0, .inl 0]), (1, 4, []), (1, 4, []), (1, 4, []), (1, 16, []), (1, 16, []), (1, 16, []), (1, 16, []), (1, 16, []), (1, 16, []), (1, 4, []), (1, 16, []), (1, 4, []), (1, 16, [])] 90 []
  refine kz_al0 X L (by decide +kernel) ?_
  refine kz_k X (x := 0) (Or.inl ⟨(by decide +kernel), rfl⟩) ?_
  refine kz_put X (idx := 50) (T := TX1) (Cn := RX1) (N := 12) (j := 11) rfl (by decide) (mk_t1 159 rfl rfl) rfl (tyX1_ok 11 (by decide)) (fun _ => rfl) (fun _ => rfl) (by decide) (by decide +kernel) ?_
  show kzG _ _ _ _ _ _ _ _ _ _ _ _ _ _ _ _ 14 160 [(0, 1, [.inr (some 1), .inr (some 6), .inr (some 7), .inr (some 8), .inr (some 9), .inr (some 10), .inr (some 11), .inr (some 12), .inr (some 13), .inr (some 14), .inl 0, .inl 0]), (0, 3, [.inl 0, .inr (some 2), .inr (some 3), .inr (some 4), .inl 0, .inr (some 5), .inl 0, .inl 3, .inl 120, .inl 0, .inl 0, .inl 0]), (1, 4, []), (1, 4, []), (1, 4, []), (1, 16, []), (1, 16, []), (1, 16, []), (1, 16, []), (1, 16, []), (1, 16, []), (1, 4, []), (1, 16, []), (1, 4, []), (1, 16, [])] 95 []
  exact kz_ret X hr hlk (by decide +kernel)
