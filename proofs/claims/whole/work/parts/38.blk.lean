/-! blocks, methods: what the small machine comes to, the machine does -/
def mk_hd (is : List mj_I) : Nat := match is with
  | (pc, _) :: _ => pc
  | [] => 0
theorem mk_pop_sp {n : Nat} {st : List mj_V} {κ : List mj_V → List mj_V → mj_R} {x : Option mj_V × mj_M} (h : mj_pop n st [] κ = some x) : ∃ as r, κ as r = some x ∧ st = as.reverse ++ r ∧ as.length = n := by
  obtain ⟨as, r, h1, -, q, h3, h4, h5⟩ := mj_pop_pu h
  refine ⟨as, r, h1, ?_, ?_⟩
  · rw [h5, List.append_nil, List.reverse_reverse]; exact h3
  · rw [h5, List.append_nil, List.length_reverse]; exact h4
theorem mk_tsw_sp {y pc : Nat} {K : Nat → mj_R} {dflt : Nat} {x : Int} {r : Option mj_V × mj_M} : ∀ (os : List Int) (sw : List (Int × Nat)) (v : Int), mk_tsw y pc v os sw = true → mj_swk K dflt x sw = some r → (∃ o l, v ≤ x ∧ x < v + os.length ∧ os[(x - v).toNat]? = some o ∧ (pc : Int) + o = (mk_pc y l : Int) ∧ K l = some r) ∨ ((x < v ∨ v + os.length ≤ x) ∧ K dflt = some r)
  | [], [], v, _, h => Or.inr ⟨by simp; omega, h⟩
  | [], (_, _) :: _, v, h, _ => by cases h
  | _ :: _, [], v, h, _ => by cases h
  | o :: os, (w, l) :: sw, v, h, h2 => by
    unfold mk_tsw at h
    simp only [Bool.and_eq_true, decide_eq_true_eq] at h
    obtain ⟨⟨rfl, h3⟩, h4⟩ := h
    unfold mj_swk at h2
    split at h2
    · rename_i e
      subst e
      exact Or.inl ⟨o, l, by omega, by simp only [List.length_cons]; omega, by simp, h3, h2⟩
    · rename_i e
      rcases mk_tsw_sp os sw (w + 1) h4 h2 with ⟨o', l', h5, h6, h7, h8, h9⟩ | ⟨h5, h6⟩
      · refine Or.inl ⟨o', l', by omega, by simp only [List.length_cons]; omega, ?_, h8, h9⟩
        have : (x - w).toNat = (x - (w + 1)).toNat + 1 := by omega
        rw [this, List.getElem?_cons_succ]
        exact h7
      · refine Or.inr ⟨?_, h6⟩
        simp only [List.length_cons]
        omega
theorem mk_lsw_sp {y pc : Nat} {K : Nat → mj_R} {dflt : Nat} {x d : Int} {r : Option mj_V × mj_M} : ∀ (ps : List (Int × Int)) (sw : List (Int × Nat)), mk_lsw y pc ps sw = true → (pc : Int) + d = (mk_pc y dflt : Int) → mj_swk K dflt x sw = some r → ∃ l, (pc : Int) + Op.lookupswitch.offset ps d x = (mk_pc y l : Int) ∧ K l = some r
  | [], [], _, hd, h => ⟨dflt, hd, h⟩
  | [], (_, _) :: _, h, _, _ => by cases h
  | (_, _) :: _, [], h, _, _ => by cases h
  | (v, o) :: ps, (w, l) :: sw, h, hd, h2 => by
    unfold mk_lsw at h
    simp only [Bool.and_eq_true, decide_eq_true_eq] at h
    obtain ⟨⟨rfl, h3⟩, h4⟩ := h
    unfold mj_swk at h2
    rw [Op.lookupswitch.offset_cons]
    split at h2
    · rename_i e
      subst e
      exact ⟨l, by rw [if_pos rfl]; exact h3, h2⟩
    · rename_i e
      rw [if_neg (fun q => e q.symm)]
      exact mk_lsw_sp ps sw h4 hd h2
theorem mk_rk_le {k : Nat} {ret : Option FieldType} (h : mk_rk k ret = true) : k = 0 ∨ k = 1 ∨ k = 2 := by
  match k, h with
  | 0, _ => exact Or.inl rfl
  | 1, _ => exact Or.inr (Or.inl rfl)
  | 2, _ => exact Or.inr (Or.inr rfl)
  | k + 3, h => cases h
section MM
variable {p : Program} {l : Launch} {e : Env} {R : Room} {s : State} {m : MethodId} {args : Array Value} {below : List Frame} {meth : Method} {c : Code} {Q : State → Prop} {XS : (Nat → Prop) → State → Prop} {lo hi : Nat} {cA : Nat → ClassId} {ad : mk_AD} {D : va_G} {tys : List (ClassId × FieldType)} {A : Nat → Prop} {own : Nat} {bytes : ByteArray} {n : Nat} {ret : Option FieldType} {d : Nat}
variable {pc : Nat} {ls : mj_L} {st : List mj_V} {μ : mj_M}
/-- a call gives this -/
def mk_Mt (l : Launch) (XS : (Nat → Prop) → State → Prop) (lo hi : Nat) (cA : Nat → ClassId) (ad : mk_AD) (D : va_G) (tys : List (ClassId × FieldType)) (d y : Nat) (as : List mj_V) (μ : mj_M) (r : Option mj_V × mj_M) : Prop :=
  mj_fit mk_LY mk_PG y as = true ∧ ((∀ v ∈ as, mk_vv lo hi v) → mk_vm μ → ∀ sz : Nat, Met l (mk_mi y).1 (mk_wy y) (mk_rm d) (mk_Pre XS lo hi cA ad D tys as μ sz) (mk_Post lo hi cA ad D tys r sz) 0 0 (mk_A lo hi ad sz))
theorem ms_call (C : mk_Cx p R s m args meth c XS lo hi cA ad D tys (mk_A lo hi ad s.heap.size) own bytes n ret (d + 1)) (hX : mk_XSc XS) {idx a b k kind : Nat} {stat : Bool} (hk : k = 0 ∨ k = 1 ∨ k = 2) (hcc : mk_cc own idx a b k kind stat = true) (hkind : (kind = 0 ∧ stat = false) ∨ (kind = 1 ∧ stat = true) ∨ (kind = 2 ∧ stat = true ∧ (own, idx, a) ∈ mk_NL)) (hd : decode bytes pc = .ok (if stat then .invokestatic idx else .invokevirtual idx, 3))
    {Cc : Nat → List mj_V → mj_M → mj_R} (hC : ∀ y as μ r, Cc y as μ = some r → mk_Mt l XS lo hi cA ad D tys d y as μ r) {κ : List mj_V → mj_M → mj_R} {r : Option mj_V × mj_M} (h : mj_cl mk_LY mk_TB Cc a b k st μ κ = some r) :
    ∃ st' μ', κ st' μ' = some r ∧ (mk_W p l e R s m args below meth c Q lo hi cA ad D (mk_A lo hi ad s.heap.size) n (pc + 3) ls st' μ' → mk_W p l e R s m args below meth c Q lo hi cA ad D (mk_A lo hi ad s.heap.size) n pc ls st μ) := by
  have pre : ∀ (as rst : List mj_V) (r1 : Option mj_V × mj_M) (H : Heap) (locs : List Loc) (Ls : Array Slot), as.length = b → mj_cat rst ≤ 8 → Cc a as μ = some r1 → mk_Rel s lo hi cA ad D (mk_A lo hi ad s.heap.size) n ls (as.reverse ++ rst) μ H locs Ls →
      va_Run p l e R s m args below meth c H locs 0 0 0 0 (F0 m pc Ls ((as.reverse ++ rst).map (mk_ev ad))) (rst.map (mk_ev ad)) (mk_Post lo hi cA ad D tys r1 H.size (as.map (mk_ev ad)).toArray) (mk_A lo hi ad H.size) := by
    intro as rst r1 H locs Ls hlen hc hr hR
    obtain ⟨hfit, hmt⟩ := hC _ _ _ _ hr
    have hM := hmt (fun v hv => hR.2.2.1 v (List.mem_append_left _ (List.mem_reverse.mpr hv))) hR.2.2.2.1 H.size
    exact ms_run C hX hcc hkind hd hfit hlen hc hM hR
  rcases hk with rfl | rfl | rfl
  · unfold mj_cl at h
    obtain ⟨as, rst, h1, rfl, hlen⟩ := mk_pop_sp h
    split at h1
    · rename_i hb
      have hc := Nat.ble_eq.mp hb
      obtain ⟨μ2, hr, hκ⟩ := mj_rV_pu h1
      refine ⟨rst, μ2, hκ, fun w H locs Ls hR => ?_⟩
      have hrun := pre as rst _ H locs Ls hlen hc hr hR
      obtain ⟨g1, g2, g3, g4, g5, g6, g7⟩ := hR
      refine va_callv (a := (as.map (mk_ev ad)).toArray) hrun g7 (fun q _ hq => mk_A_le g7.1 q hq) (mk_A_le g7.1) (fun u t H1 locs1 ht hvm hw hB hz1 hk1 hS => ?_)
      obtain ⟨b1, b2, b3, b4⟩ := hB
      rw [ht] at b2
      exact w H1 locs1 Ls ⟨g1, g2, fun v hv => g3 v (List.mem_append_right _ hv), b1, b2, b4.weaken (fun _ _ _ hq => mk_A_le g7.1 _ hq), hS⟩
    · cases h1
  · unfold mj_cl at h
    obtain ⟨as, rst, h1, rfl, hlen⟩ := mk_pop_sp h
    split at h1
    · rename_i hb
      have hc := Nat.ble_eq.mp hb
      obtain ⟨v, μ2, hr, hκ⟩ := mj_rI_pu h1
      refine ⟨(.inl v :: rst), μ2, hκ, fun w H locs Ls hR => ?_⟩
      have hrun := pre as rst _ H locs Ls hlen hc hr hR
      obtain ⟨g1, g2, g3, g4, g5, g6, g7⟩ := hR
      refine va_calli (a := (as.map (mk_ev ad)).toArray) hrun g7 (fun q _ hq => mk_A_le g7.1 q hq) (mk_A_le g7.1) (fun v2 u t H1 locs1 ht hvm hw hB hz1 hk1 hS => ?_)
      obtain ⟨b1, b2, b3, b4⟩ := hB
      rw [ht] at b2
      rw [hw.1]
      exact w H1 locs1 Ls ⟨g1, g2, mk_sc (show mk_vv lo hi (.inl v) from hw.2) (fun v hv => g3 v (List.mem_append_right _ hv)), b1, b2, b4.weaken (fun _ _ _ hq => mk_A_le g7.1 _ hq), hS⟩
    · cases h1
  · unfold mj_cl at h
    obtain ⟨as, rst, h1, rfl, hlen⟩ := mk_pop_sp h
    split at h1
    · rename_i hb
      have hc := Nat.ble_eq.mp hb
      obtain ⟨v, μ2, hr, hκ⟩ := mj_rL_pu h1
      refine ⟨(.inr (.inl v) :: rst), μ2, hκ, fun w H locs Ls hR => ?_⟩
      have hrun := pre as rst _ H locs Ls hlen hc hr hR
      obtain ⟨g1, g2, g3, g4, g5, g6, g7⟩ := hR
      refine va_calll (a := (as.map (mk_ev ad)).toArray) hrun g7 (fun q _ hq => mk_A_le g7.1 q hq) (mk_A_le g7.1) (fun v2 u t H1 locs1 ht hvm hw hB hz1 hk1 hS => ?_)
      obtain ⟨b1, b2, b3, b4⟩ := hB
      rw [ht] at b2
      rw [hw.1]
      exact w H1 locs1 Ls ⟨g1, g2, mk_sc (show mk_vv lo hi (.inr (.inl v)) from hw.2) (fun v hv => g3 v (List.mem_append_right _ hv)), b1, b2, b4.weaken (fun _ _ _ hq => mk_A_le g7.1 _ hq), hS⟩
    · cases h1
theorem mk_blk_sound (C : mk_Cx p R s m args meth c XS lo hi cA ad D tys (mk_A lo hi ad s.heap.size) own bytes n ret d) (hX : mk_XSc XS) (hS : mk_Str XS lo hi cA ad D tys) {y : Nat} {K : Nat → mj_L → List mj_V → mj_M → mj_R} {Cc : Nat → List mj_V → mj_M → mj_R} {r : Option mj_V × mj_M}
    (hQ : Q = MQ below (mk_Post lo hi cA ad D tys r s.heap.size) args s 0 0 (mk_A lo hi ad s.heap.size))
    (hK : ∀ l' ls st μ, K l' ls st μ = some r → mk_W p l e R s m args below meth c Q lo hi cA ad D (mk_A lo hi ad s.heap.size) n (mk_pc y l') ls st μ)
    (hC : ∀ y as μ r, Cc y as μ = some r → ∃ d', d = d' + 1 ∧ mk_Mt l XS lo hi cA ad D tys d' y as μ r) :
    ∀ (is : List mj_I) (ls : mj_L) (st : List mj_V) (μ : mj_M), mk_ckb y own n ret bytes is = true → mj_blk mk_LY mk_TB mk_CS K Cc is ls st μ = some r → mk_W p l e R s m args below meth c Q lo hi cA ad D (mk_A lo hi ad s.heap.size) n (mk_hd is) ls st μ := by
  intro is
  induction is with
  | nil => intro ls st μ _ h; cases h
  | cons q is ih =>
    obtain ⟨pc, ins, a, b, k, sw⟩ := q
    intro ls st μ hck h
    unfold mk_ckb at hck
    rw [Bool.and_eq_true] at hck
    obtain ⟨hck, hck2⟩ := hck
    have hck : mk_ck y own n ret bytes (pc, ins, a, b, k, sw) (mk_hd is) = true := hck
    show mk_W p l e R s m args below meth c Q lo hi cA ad D (mk_A lo hi ad s.heap.size) n pc ls st μ
    unfold mj_blk at h
    split at h
    · simp only [mk_ck, Nat.beq_eq] at hck
      rw [← hck]
      exact hK _ _ _ _ h
    · simp only [mk_ck, Bool.and_eq_true, decide_eq_true_eq] at hck
      intro H locs Ls hR
      exact lv_goto C.1 C.2.1 (mk_dl_sp hck.1) hck.2 (hK _ _ _ _ h H locs Ls hR)
    · simp only [mk_ck, Bool.and_eq_true, decide_eq_true_eq, Nat.beq_eq] at hck
      obtain ⟨x, rst, h1, rfl⟩ := mk_p1_sp h
      intro H locs Ls hR
      obtain ⟨g1, g2, g3, g4, g5⟩ := hR
      obtain ⟨hx, g3⟩ := mk_st g3
      have hd := mk_dl_sp hck.1.1
      have tk : K a ls rst μ = some r → W p l e R s m args below meth c H locs 0 0 Q (F0 m (mk_pc y a) Ls (rst.map (mk_ev ad))) := fun q => hK _ _ _ _ q H locs Ls ⟨g1, g2, g3, g4, g5⟩
      have nk : mj_blk mk_LY mk_TB mk_CS K Cc is ls rst μ = some r → W p l e R s m args below meth c H locs 0 0 Q (F0 m (pc + 3) Ls (rst.map (mk_ev ad))) := fun q => by
        have := ih _ _ _ hck2 q H locs Ls ⟨g1, g2, g3, g4, g5⟩
        rw [hck.1.2] at this
        exact this
      unfold mj_ifc at h1
      split at h1
      · refine lv_if_eq C.1 C.2.1 hd hck.2 (fun q => tk ?_) (fun q => nk ?_)
        · rw [if_pos ((mj_I_inj hx mj_n0).mp q)] at h1; exact h1
        · rw [if_neg (fun w => q ((mj_I_inj hx mj_n0).mpr w))] at h1; exact h1
      · refine lv_if_ne C.1 C.2.1 hd hck.2 (fun q => tk ?_) (fun q => nk ?_)
        · rw [if_neg (fun w => q ((mj_I_inj hx mj_n0).mpr w))] at h1; exact h1
        · rw [if_pos ((mj_I_inj hx mj_n0).mp q)] at h1; exact h1
      · refine lv_if_lt C.1 C.2.1 hd hck.2 (fun q => tk ?_) (fun q => nk ?_)
        · rw [if_pos ((mj_I_lt hx mj_n0).mp q)] at h1; exact h1
        · rw [if_neg (fun w => q ((mj_I_lt hx mj_n0).mpr w))] at h1; exact h1
      · refine lv_if_ge C.1 C.2.1 hd hck.2 (fun q => tk ?_) (fun q => nk ?_)
        · rw [if_neg (fun w => by have := (mj_I_le mj_n0 hx).mp q; omega)] at h1; exact h1
        · rw [if_pos (by have : ¬ _ := fun w => q ((mj_I_le mj_n0 hx).mpr w); omega)] at h1; exact h1
      · refine lv_if_gt C.1 C.2.1 hd hck.2 (fun q => tk ?_) (fun q => nk ?_)
        · rw [if_pos ((mj_I_lt mj_n0 hx).mp q)] at h1; exact h1
        · rw [if_neg (fun w => q ((mj_I_lt mj_n0 hx).mpr w))] at h1; exact h1
      · refine lv_if_le C.1 C.2.1 hd hck.2 (fun q => tk ?_) (fun q => nk ?_)
        · rw [if_neg (fun w => by have := (mj_I_le hx mj_n0).mp q; omega)] at h1; exact h1
        · rw [if_pos (by have : ¬ _ := fun w => q ((mj_I_le hx mj_n0).mpr w); omega)] at h1; exact h1
    · simp only [mk_ck, Bool.and_eq_true, decide_eq_true_eq, Nat.beq_eq] at hck
      obtain ⟨x, z, rst, h1, rfl⟩ := mk_p2_sp h
      intro H locs Ls hR
      obtain ⟨g1, g2, g3, g4, g5⟩ := hR
      obtain ⟨hz, g3⟩ := mk_st g3
      obtain ⟨hx, g3⟩ := mk_st g3
      have hd := mk_dl_sp hck.1.1
      have tk : K a ls rst μ = some r → W p l e R s m args below meth c H locs 0 0 Q (F0 m (mk_pc y a) Ls (rst.map (mk_ev ad))) := fun q => hK _ _ _ _ q H locs Ls ⟨g1, g2, g3, g4, g5⟩
      have nk : mj_blk mk_LY mk_TB mk_CS K Cc is ls rst μ = some r → W p l e R s m args below meth c H locs 0 0 Q (F0 m (pc + 3) Ls (rst.map (mk_ev ad))) := fun q => by
        have := ih _ _ _ hck2 q H locs Ls ⟨g1, g2, g3, g4, g5⟩
        rw [hck.1.2] at this
        exact this
      unfold mj_ifc at h1
      split at h1
      · refine lv_icmp_eq C.1 C.2.1 hd hck.2 (fun q => tk ?_) (fun q => nk ?_)
        · rw [if_pos ((mj_I_inj hx hz).mp q)] at h1; exact h1
        · rw [if_neg (fun w => q ((mj_I_inj hx hz).mpr w))] at h1; exact h1
      · refine lv_icmp_ne C.1 C.2.1 hd hck.2 (fun q => tk ?_) (fun q => nk ?_)
        · rw [if_neg (fun w => q ((mj_I_inj hx hz).mpr w))] at h1; exact h1
        · rw [if_pos ((mj_I_inj hx hz).mp q)] at h1; exact h1
      · refine lv_icmp_lt C.1 C.2.1 hd hck.2 (fun q => tk ?_) (fun q => nk ?_)
        · rw [if_pos ((mj_I_lt hx hz).mp q)] at h1; exact h1
        · rw [if_neg (fun w => q ((mj_I_lt hx hz).mpr w))] at h1; exact h1
      · refine lv_icmp_ge C.1 C.2.1 hd hck.2 (fun q => tk ?_) (fun q => nk ?_)
        · rw [if_neg (fun w => by have := (mj_I_le hz hx).mp q; omega)] at h1; exact h1
        · rw [if_pos (by have : ¬ _ := fun w => q ((mj_I_le hz hx).mpr w); omega)] at h1; exact h1
      · refine lv_icmp_gt C.1 C.2.1 hd hck.2 (fun q => tk ?_) (fun q => nk ?_)
        · rw [if_pos ((mj_I_lt hz hx).mp q)] at h1; exact h1
        · rw [if_neg (fun w => q ((mj_I_lt hz hx).mpr w))] at h1; exact h1
      · refine lv_icmp_le C.1 C.2.1 hd hck.2 (fun q => tk ?_) (fun q => nk ?_)
        · rw [if_neg (fun w => by have := (mj_I_le hx hz).mp q; omega)] at h1; exact h1
        · rw [if_pos (by have : ¬ _ := fun w => q ((mj_I_le hx hz).mpr w); omega)] at h1; exact h1
    · -- tableswitch
      simp only [mk_ck, Bool.and_eq_true, decide_eq_true_eq] at hck
      obtain ⟨⟨⟨⟨k1, k2⟩, k3⟩, k4⟩, k5⟩ := hck
      obtain ⟨len, hd⟩ := mk_di_sp k1
      obtain ⟨x, rst, h1, rfl⟩ := mk_p1_sp h
      intro H locs Ls hR
      obtain ⟨g1, g2, g3, g4, g5⟩ := hR
      obtain ⟨hx, g3⟩ := mk_st g3
      rcases mk_tsw_sp _ _ _ k3 h1 with ⟨o', l', h5, h6, h7, h8, h9⟩ | ⟨h5, h6⟩
      · refine lv_tableIn C.1 C.2.1 hd (x := Int32.ofInt x) (by rw [mj_tI hx]; omega) (by rw [mj_tI hx]; omega) (off := o') (by rw [mj_tI hx, ← Array.getElem?_toList]; exact h7) h8 (hK _ _ _ _ h9 H locs Ls ⟨g1, g2, g3, g4, g5⟩)
      · refine lv_tableOut C.1 C.2.1 hd (x := Int32.ofInt x) (by rw [mj_tI hx]; omega) k2 (hK _ _ _ _ h6 H locs Ls ⟨g1, g2, g3, g4, g5⟩)
    · -- lookupswitch
      simp only [mk_ck, Bool.and_eq_true, decide_eq_true_eq] at hck
      obtain ⟨⟨⟨k1, k2⟩, k3⟩, k4⟩ := hck
      obtain ⟨len, hd⟩ := mk_di_sp k1
      obtain ⟨x, rst, h1, rfl⟩ := mk_p1_sp h
      intro H locs Ls hR
      obtain ⟨g1, g2, g3, g4, g5⟩ := hR
      obtain ⟨hx, g3⟩ := mk_st g3
      obtain ⟨l', h8, h9⟩ := mk_lsw_sp _ _ k3 k2 h1
      exact lv_lookup C.1 C.2.1 hd (x := Int32.ofInt x) k4 rfl (by rw [mj_tI hx]; exact h8) (hK _ _ _ _ h9 H locs Ls ⟨g1, g2, g3, g4, g5⟩)
    · -- ireturn
      simp only [mk_ck, Bool.and_eq_true] at hck
      subst hQ
      unfold mj_ri at h
      split at h
      · rename_i x
        intro H locs Ls hR
        obtain ⟨g1, g2, g3, g4, g5⟩ := hR
        obtain ⟨hx, g3⟩ := mk_st g3
        have post : ∀ r', r' = (some (.inl x), μ) → ∀ t : State, t.heap = H → s.WarmedH t.vm → mk_Post lo hi cA ad D tys r' s.heap.size args s (.returned (some (.int (Int32.ofInt x)))) t := by
          intro r' hr' t ht hW
          subst hr'
          exact ⟨⟨Int32.ofInt x, (), rfl, ⟨rfl, hx⟩, g4, by rw [ht]; exact g5.1, va_K.moved hW.alike C.2.2.2.2.2.2.2.1, g5.2.1⟩, g5.2.2.F ht⟩
        split at h
        · cases h
          simp only [decide_eq_true_eq] at hck
          exact W.iret C.1 C.2.1 (C.2.2.1.trans hck.2) (post _ rfl) g5.2.2.2.2 (mk_dl_sp hck.1) C.2.2.2.2.2.2.1
        · split at h
          · rename_i h01
            cases h
            simp only [decide_eq_true_eq] at hck
            exact W.zret C.1 C.2.1 (C.2.2.1.trans hck.2) (by rcases h01 with rfl | rfl <;> rfl) (post _ rfl) g5.2.2.2.2 (mk_dl_sp hck.1) C.2.2.2.2.2.2.1
          · cases h
      · cases h
    · -- lreturn
      simp only [mk_ck, Bool.and_eq_true, decide_eq_true_eq] at hck
      subst hQ
      unfold mj_rl at h
      split at h
      · rename_i x
        cases h
        intro H locs Ls hR
        obtain ⟨g1, g2, g3, g4, g5⟩ := hR
        obtain ⟨hx, g3⟩ := mk_st g3
        exact W.lret C.1 C.2.1 (C.2.2.1.trans hck.2) (fun t ht hW => ⟨⟨Int64.ofInt x, (), rfl, ⟨rfl, hx⟩, g4, by rw [ht]; exact g5.1, va_K.moved hW.alike C.2.2.2.2.2.2.2.1, g5.2.1⟩, g5.2.2.F ht⟩) g5.2.2.2.2 (mk_dl_sp hck.1) C.2.2.2.2.2.2.1
      · cases h
    · -- return
      simp only [mk_ck, Bool.and_eq_true, decide_eq_true_eq] at hck
      subst hQ
      unfold mj_rv at h
      split at h
      · cases h
        intro H locs Ls hR
        obtain ⟨g1, g2, g3, g4, g5⟩ := hR
        exact W.vret C.1 C.2.1 (C.2.2.1.trans hck.2) (fun t ht hW => ⟨⟨(), rfl, trivial, g4, by rw [ht]; exact g5.1, va_K.moved hW.alike C.2.2.2.2.2.2.2.1, g5.2.1⟩, g5.2.2.F ht⟩) g5.2.2.2.2 (mk_dl_sp hck.1) C.2.2.2.2.2.2.1
      · cases h
    · -- invokevirtual
      rename_i idx hck0
      simp only [mk_ck, Bool.and_eq_true, Nat.beq_eq] at hck
      obtain ⟨⟨k1, k2⟩, k3⟩ := hck
      have hd := mk_dl_sp k1
      by_cases e7 : k = 7
      · subst e7
        simp only [Bool.and_eq_true, Nat.beq_eq] at k3
        obtain ⟨rfl, rfl⟩ := k3
        unfold mj_cl at h
        obtain ⟨j, s', i, rst, h1, rfl⟩ := mk_a2_sp h
        split at h1
        · rename_i hb
          have hc := Nat.ble_eq.mp hb
          split at h1
          · rename_i nn c1 sl1 e1
            obtain ⟨v, h2, -, hj0, t, ht1, ht2⟩ := mj_tb4_pu h1
            have hn0 : ∀ s', (mj_srt mk_LY s').1 = 4 → s' = 63 ∧ (mj_srt mk_LY s').2.1 = 0 := by
              intro s' hs'
              by_cases hlt : s' < 65
              · have : ∀ s' : Nat, s' < 65 → (mj_srt mk_LY s').1 = 4 → s' = 63 ∧ (mj_srt mk_LY s').2.1 = 0 := by decide +kernel
                exact this s' hlt hs'
              · exfalso
                unfold mj_srt at hs'
                have : mj_nth mk_LY s' = none := by
                  rw [mj_nth_eq, List.getElem?_eq_none_iff]
                  show 65 ≤ s'
                  omega
                rw [this] at hs'
                cases hs'
            obtain ⟨rfl, hn⟩ := hn0 s' (by rw [e1])
            rw [e1] at hn
            change nn = 0 at hn
            subst hn
            intro H locs Ls hR
            have hi0 : i = 0 := by
              rcases hR.2.2.1 _ (List.mem_cons_of_mem _ List.mem_cons_self) with ⟨g1, g2, -⟩ | ⟨-, g⟩ | ⟨g, -⟩
              · exact absurd (by rw [e1]) (mk_closed_at C.2.2.2.2.2.2.2.2.2.2.2.2.1 g1 g2).1
              · exact g
              · cases g
            subst hi0
            have w := ih _ _ _ hck2 h2
            rw [k2] at w
            exact (hS p l e R s m args below meth c Q _ bytes n ret d pc ls rst μ (fun _ h => h) C).2 j v t ht1 hj0 ht2 hc hd w H locs Ls hR
          · cases h1
        · cases h1
      · have hcc : mk_cc own idx a b k 0 false = true := by
          split at k3
          · exact absurd rfl e7
          · exact k3
        have hk : k = 0 ∨ k = 1 ∨ k = 2 := by
          unfold mk_cc at hcc
          simp only [Bool.and_eq_true] at hcc
          exact mk_rk_le hcc.2
        obtain ⟨d', hdd⟩ : ∃ d', d = d' + 1 := by
          obtain ⟨st', μ', -, h2⟩ := mj_cl_pu h
          rcases h2 with h2 | ⟨as, r1, h3, -⟩
          · exfalso
            have := h2 (fun _ _ _ => none) (fun _ _ => some (none, μ))
            rcases hk with rfl | rfl | rfl <;>
            · unfold mj_cl at this h
              obtain ⟨as, rst, h1, rfl, hlen⟩ := mk_pop_sp h
              obtain ⟨as2, rst2, h12, -, -⟩ := mk_pop_sp this
              split at h12
              · cases h12
              · cases h12
          · obtain ⟨d', e1, -⟩ := hC _ _ _ _ h3
            exact ⟨d', e1⟩
        subst hdd
        obtain ⟨st', μ', h1, h2⟩ := ms_call C hX hk hcc (Or.inl ⟨rfl, rfl⟩) hd (fun y as μ r hr => by obtain ⟨d2, e1, h⟩ := hC y as μ r hr; cases e1; exact h) h
        have w := ih _ _ _ hck2 h1
        rw [k2] at w
        exact h2 w
    · -- invokestatic
      rename_i idx hck0
      simp only [mk_ck, Bool.and_eq_true, Nat.beq_eq] at hck
      obtain ⟨⟨k1, k2⟩, k3⟩ := hck
      have hd := mk_dl_sp k1
      by_cases e5 : k = 5
      · subst e5
        simp only [Bool.and_eq_true, Bool.or_eq_true, Nat.beq_eq] at k3
        unfold mj_cl at h
        obtain ⟨x, z, rst, h1, rfl⟩ := mk_p2_sp h
        split at h1
        · rename_i hb
          have hc := Nat.ble_eq.mp hb
          have w := ih _ _ _ hck2 h1
          rw [k2] at w
          refine ms_max C hd ?_ hc w
          rcases k3 with ⟨rfl, rfl⟩ | ⟨rfl, rfl⟩
          · exact mk_max0_32
          · exact mk_max1_150
        · cases h1
      · by_cases e6 : k = 6
        · subst e6
          simp only [Bool.and_eq_true, Nat.beq_eq] at k3
          obtain ⟨rfl, rfl⟩ := k3
          unfold mj_cl at h
          obtain ⟨st', μ', h1, h2⟩ := ms_acp (l := l) (e := e) (below := below) (Q := Q) (pc := pc) (ls := ls) C hd mk_acp7_326 h
          split at h1
          · rename_i hb
            have hc := Nat.ble_eq.mp hb
            have w := ih _ _ _ hck2 h1
            rw [k2] at w
            exact h2 hc w
          · cases h1
        · have hcc : ∃ kind, mk_cc own idx a b k kind true = true ∧ ((kind = 0 ∧ true = false) ∨ (kind = 1 ∧ true = true) ∨ (kind = 2 ∧ true = true ∧ (own, idx, a) ∈ mk_NL)) := by
            split at k3
            · exact absurd rfl e5
            · exact absurd rfl e6
            · simp only [Bool.or_eq_true, Bool.and_eq_true, List.contains_iff_mem] at k3
              rcases k3 with k3 | ⟨k3, k4⟩
              · exact ⟨1, k3, Or.inr (Or.inl ⟨rfl, rfl⟩)⟩
              · exact ⟨2, k3, Or.inr (Or.inr ⟨rfl, rfl, k4⟩)⟩
          obtain ⟨kind, hcc, hkind⟩ := hcc
          have hk : k = 0 ∨ k = 1 ∨ k = 2 := by
            unfold mk_cc at hcc
            simp only [Bool.and_eq_true] at hcc
            exact mk_rk_le hcc.2
          obtain ⟨d', hdd⟩ : ∃ d', d = d' + 1 := by
            obtain ⟨st', μ', -, h2⟩ := mj_cl_pu h
            rcases h2 with h2 | ⟨as, r1, h3, -⟩
            · exfalso
              have := h2 (fun _ _ _ => none) (fun _ _ => some (none, μ))
              rcases hk with rfl | rfl | rfl <;>
              · unfold mj_cl at this h
                obtain ⟨as, rst, h1, rfl, hlen⟩ := mk_pop_sp h
                obtain ⟨as2, rst2, h12, -, -⟩ := mk_pop_sp this
                split at h12
                · cases h12
                · cases h12
            · obtain ⟨d', e1, -⟩ := hC _ _ _ _ h3
              exact ⟨d', e1⟩
          subst hdd
          obtain ⟨st', μ', h1, h2⟩ := ms_call C hX hk hcc hkind hd (fun y as μ r hr => by obtain ⟨d2, e1, h⟩ := hC y as μ r hr; cases e1; exact h) h
          have w := ih _ _ _ hck2 h1
          rw [k2] at w
          exact h2 w
    · obtain ⟨ls', st', μ', h1, h2⟩ := ms_ps (l := l) (e := e) (below := below) (Q := Q) C hS (fun _ h => h) hck h
      exact h2 (ih _ _ _ hck2 h1)
end MM
