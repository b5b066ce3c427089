/-! the laws of the steps: fields and arrays -/
def mk_dz (k : Nat) : String := match k with
  | 0 => "I"
  | _ + 1 => "Z"
def mk_flk (q : Nat × Nat × Nat × Nat × Nat) : Bool := match vwCl[q.2.2.1]? with
  | some (_, _, N) => Nat.blt q.2.2.2.1 N
  | none => false
theorem mk_FLs : mk_FL.all mk_flk = true := by decide +kernel
theorem mk_cls {ci : Nat} {Cn : String} {T : u_T} {N : Nat} (h : vwCl[ci]? = some (Cn, T, N)) : (∀ w ∈ u_ws Cn T N, w ∈ mk_tb) ∧ (∃ ty : Nat → FieldType, ∀ k, k < N → parseFieldDescriptor (T k).2.2.1 = some (ty k)) ∧ (∀ a, a < N → ∀ b, b < N → a ≠ b → (T a).2.1 ≠ (T b).2.1) := by
  match ci, h with
  | 0, h => cases h; exact ⟨mk_u0, ⟨tyX0, tyX0_ok⟩, nmX0⟩
  | 1, h => cases h; exact ⟨mk_u1, ⟨tyX1, tyX1_ok⟩, nmX1⟩
  | 2, h => cases h; exact ⟨mk_u2, ⟨tyX2, tyX2_ok⟩, nmX2⟩
  | 3, h => cases h; exact ⟨mk_u3, ⟨tyX3, tyX3_ok⟩, nmX3⟩
  | 4, h => cases h; exact ⟨mk_u4, ⟨tyX4, tyX4_ok⟩, nmX4⟩
  | 5, h => cases h; exact ⟨mk_u5, ⟨tyX5, tyX5_ok⟩, nmX5⟩
  | 6, h => cases h; exact ⟨mk_u6, ⟨tyX6, tyX6_ok⟩, nmX6⟩
  | 7, h => cases h; exact ⟨mk_u7, ⟨tyX7, tyX7_ok⟩, nmX7⟩
  | 8, h => cases h; exact ⟨mk_u8, ⟨tyX8, tyX8_ok⟩, nmX8⟩
  | k + 9, h => simp [vwCl] at h
theorem mk_nfw : nativeFrameWords "java/lang/System" "arraycopy" 5 ≤ 100 := by decide +kernel
theorem mk_vr_in {lo hi s i : Nat} (h : mk_vr lo hi s i) (hk : (mj_srt mk_LY s).1 < 4) : lo ≤ s ∧ s < hi ∧ i < mk_cnt s := by
  rcases h with h | ⟨rfl, -⟩ | ⟨rfl, -⟩
  · exact h
  · exact absurd hk (by decide)
  · exact absurd hk (by decide)
theorem mk_en_of {cA : Nat → ClassId} {ad : mk_AD} {μ μ' : mj_M} {s' i' : Nat} (hm : ∀ j, μ' s' i' j = μ s' i' j) : mk_en cA ad μ' s' i' = mk_en cA ad μ s' i' := by
  have hf : ∀ (sl : List (Option (Nat × Nat))) (j : Nat), mk_fs ad μ' s' i' j sl = mk_fs ad μ s' i' j sl := by
    intro sl
    induction sl with
    | nil => intro j; rfl
    | cons a r ih =>
      intro j
      cases a with
      | none => show _ :: _ = _ :: _; rw [hm, ih]
      | some q => show _ :: _ = _ :: _; rw [ih]
  unfold mk_en
  simp only [hf, hm]
theorem mk_closed_5 {lo hi s : Nat} (h : mk_closed lo hi = true) (h1 : lo ≤ s) (h2 : s < hi) : (mj_srt mk_LY s).1 ≠ 5 := by
  have hs := List.all_eq_true.mp h s (List.mem_range'.mpr ⟨s - lo, by omega, by omega⟩)
  intro q
  generalize mj_srt mk_LY s = v at q hs
  obtain ⟨k, n, c, sl⟩ := v
  change k = 5 at q
  subst q
  simp at hs
section MH
variable {p : Program} {l : Launch} {e : Env} {R : Room} {s : State} {m : MethodId} {args : Array Value} {below : List Frame} {meth : Method} {c : Code} {Q : State → Prop} {XS : (Nat → Prop) → State → Prop} {lo hi : Nat} {cA : Nat → ClassId} {ad : mk_AD} {D : va_G} {tys : List (ClassId × FieldType)} {A : Nat → Prop} {own : Nat} {bytes : ByteArray} {n : Nat} {ret : Option FieldType} {d : Nat}
variable {pc : Nat} {ls : mj_L} {st : List mj_V} {μ : mj_M}
theorem ms_get (C : mk_Cx p R s m args meth c XS lo hi cA ad D tys A own bytes n ret d) {idx a b z s' i : Nat} {κ : List mj_V → mj_R} {r : Option mj_V × mj_M} (hd : decode bytes pc = .ok (.getfield idx, 3)) (hf : (own, idx, b, a, z) ∈ mk_FL) (h : mj_gf mk_LY a b s' i st μ κ = some r) : ∃ v, κ (v :: st) = some r ∧ (mk_W p l e R s m args below meth c Q lo hi cA ad D A n (pc + 3) ls (v :: st) μ → mk_W p l e R s m args below meth c Q lo hi cA ad D A n pc ls (.inr (.inr (s', i)) :: st) μ) := by
  unfold mj_gf at h
  split at h
  · rename_i ci cn sl e1
    split at h
    · rename_i e2
      have e2 := Nat.eq_of_beq_eq_true e2
      subst e2
      have hw := C.2.2.2.2.2.1 _ (mk_FLw _ hf)
      have hk := List.all_eq_true.mp mk_FLs _ hf
      unfold mk_flk at hk
      dsimp only at hk hw
      cases hv : vwCl[ci]? with
      | none => rw [hv] at hk; cases hk
      | some q =>
        obtain ⟨Cn, T, N⟩ := q
        rw [hv] at hk
        have hk := Nat.blt_eq.mp hk
        have hft : mk_ft ci a = T a := by unfold mk_ft; rw [hv]
        rw [hft] at hw
        obtain ⟨c1, c2, c3⟩ := mk_cls hv
        have key : ∀ (v : mj_V) (o : Option (Nat × Nat)), mj_nth sl a = some o → mk_ev ad v = mk_ov ad μ s' i (0 + a) o → (∀ (H : Heap) (locs : List Loc) (Ls : Array Slot), mk_Rel s lo hi cA ad D A n ls (.inr (.inr (s', i)) :: st) μ H locs Ls → mk_vv lo hi v) → (mk_W p l e R s m args below meth c Q lo hi cA ad D A n (pc + 3) ls (v :: st) μ → mk_W p l e R s m args below meth c Q lo hi cA ad D A n pc ls (.inr (.inr (s', i)) :: st) μ) := by
          intro v o ho he hvv k H locs Ls hR
          have hv1 := hvv H locs Ls hR
          obtain ⟨h1, h2, h3, h4, h5⟩ := hR
          obtain ⟨hr, h6⟩ := mk_st h3
          obtain ⟨g1, g2, g3⟩ := mk_vr_in hr (by rw [e1]; exact Nat.zero_lt_succ 3)
          obtain ⟨j, hj⟩ := mk_cell_at g1 g2 g3
          have hat := mk_ws_at (cA := cA) (ad := ad) (μ := μ) hj
          have hen : mk_en cA ad μ s' i = .inr (ci, mk_fs ad μ s' i 0 sl) := by simp only [mk_en, e1]
          rw [hen] at hat
          have hfs := mk_fs_at (ad := ad) (μ := μ) (s := s') (i := i) sl a 0 o ho
          rw [← he] at hfs
          exact va_get (D := D) (ci := ci) (C := Cn) (T := T) (N := N) C.1 C.2.1 C.2.2.2.2.2.1 c1 C.2.2.2.2.1 C.2.2.2.2.2.2.2.1 h5.1 j hat hv a hk hw (fun _ h => h) hfs hd (k H locs Ls ⟨h1, h2, mk_sc hv1 h6, h4, h5⟩)
        split at h
        · rename_i e3
          refine ⟨_, h, key _ none e3 (by rw [Nat.zero_add]; rfl) (fun H locs Ls hR => ?_)⟩
          exact (hR.2.2.2.1 s' i a).2 (by rw [e1]; exact fun q => by cases q)
        · rename_i t d e3
          refine ⟨_, h, key _ (some (t, d)) e3 rfl (fun H locs Ls hR => ?_)⟩
          obtain ⟨g1, g2, g3⟩ := mk_vr_in (mk_st hR.2.2.1).1 (by rw [e1]; exact Nat.zero_lt_succ 3)
          obtain ⟨q1, q2, q3⟩ := (mk_closed_at C.2.2.2.2.2.2.2.2.2.2.2.2.1 g1 g2).2.1 ci cn sl a t d e1 e3
          have : mk_cnt s' = cn := by unfold mk_cnt; rw [e1]
          exact Or.inl ⟨q1, q2, by omega⟩
        · cases h
    · cases h
  · cases h
theorem ms_put (C : mk_Cx p R s m args meth c XS lo hi cA ad D tys A own bytes n ret d) {idx a b k s' i : Nat} {x : Int} {κ : mj_M → mj_R} {r : Option mj_V × mj_M} (hd : decode bytes pc = .ok (.putfield idx, 3)) (hf : (own, idx, b, a, k) ∈ mk_FL) (hq : (mk_ft b a).2.2.2 = false ∧ (mk_ft b a).2.2.1 = mk_dz k) (h : mj_pf mk_LY a b k s' i x μ κ = some r) : ∃ μ', κ μ' = some r ∧ (mk_W p l e R s m args below meth c Q lo hi cA ad D A n (pc + 3) ls st μ' → mk_W p l e R s m args below meth c Q lo hi cA ad D A n pc ls (.inl x :: .inr (.inr (s', i)) :: st) μ) := by
  unfold mj_pf at h
  split at h
  · rename_i ci cn sl e1
    split at h
    · rename_i e2
      have e2 := Nat.eq_of_beq_eq_true e2
      subst e2
      have hw := C.2.2.2.2.2.1 _ (mk_FLw _ hf)
      have hk := List.all_eq_true.mp mk_FLs _ hf
      unfold mk_flk at hk
      dsimp only at hk hw
      cases hv : vwCl[ci]? with
      | none => rw [hv] at hk; cases hk
      | some q =>
        obtain ⟨Cn, T, N⟩ := q
        rw [hv] at hk
        have hk := Nat.blt_eq.mp hk
        have hft : mk_ft ci a = T a := by unfold mk_ft; rw [hv]
        rw [hft] at hw hq
        obtain ⟨c1, ⟨ty, c2⟩, c3⟩ := mk_cls hv
        split at h
        · rename_i e3
          have key : ∀ (ft : FieldType), parseFieldDescriptor (T a).2.2.1 = some ft → narrow ft (.int (Int32.ofInt x)) = .int (Int32.ofInt x) → fits ft (.int (Int32.ofInt x)) = true → (mk_W p l e R s m args below meth c Q lo hi cA ad D A n (pc + 3) ls st (mj_up μ s' i a x) → mk_W p l e R s m args below meth c Q lo hi cA ad D A n pc ls (.inl x :: .inr (.inr (s', i)) :: st) μ) := by
            intro ft hp1 hp2 hp3 k H locs Ls ⟨h1, h2, h3, h4, h5⟩
            obtain ⟨hx, h6⟩ := mk_st h3
            obtain ⟨hr, h6⟩ := mk_st h6
            obtain ⟨g1, g2, g3⟩ := mk_vr_in hr (by rw [e1]; exact Nat.zero_lt_succ 3)
            obtain ⟨j, hj⟩ := mk_cell_at g1 g2 g3
            have hat := mk_ws_at (cA := cA) (ad := ad) (μ := μ) hj
            have hen : ∀ μ, mk_en cA ad μ s' i = .inr (ci, mk_fs ad μ s' i 0 sl) := by intro μ; simp only [mk_en, e1]
            rw [hen] at hat
            refine va_put (v := .int (Int32.ofInt x)) (D := D) (ci := ci) (C := Cn) (T := T) (N := N) C.1 C.2.1 C.2.2.2.2.2.1 c1 ty c2 c3 C.2.2.2.2.1 C.2.2.2.2.2.2.2.1 h5.1 h5.2.1 h5.2.2 j hat hv a hk hw (fun _ h => h) hq.1 hp1 hp2 hp3 (by rw [mk_fs_len]; exact mj_nth_lt _ _ _ e3) hd (fun H1 locs1 hP hD hS => ?_)
            have hset := mk_ws_set (cA := cA) (ad := ad) (μ := μ) (μ' := mj_up μ s' i a x) (e := .inr (ci, (mk_fs ad μ s' i 0 sl).set a (.int (Int32.ofInt x)))) C.2.2.2.2.2.2.2.2.2.2.2.1 hj (by rw [hen, mk_fs_up sl a 0 e3, Nat.zero_add]) (fun _ _ h => mk_en_off h)
            rw [hset] at hP hD
            exact k H1 locs1 Ls ⟨h1, h2, h6, mk_vm_up h4 (mj_n32_64 hx) (fun _ => hx), hP, hD, hS⟩
          split at h
          · exact ⟨_, h, key .int (by rw [hq.2]; decide +kernel) rfl rfl⟩
          · by_cases q01 : x = 0 ∨ x = 1
            · rw [if_pos q01] at h
              refine ⟨_, h, key .boolean (by rw [hq.2]; show parseFieldDescriptor "Z" = _; decide +kernel) ?_ ?_⟩
              · rcases q01 with rfl | rfl <;> rfl
              · rcases q01 with rfl | rfl <;> rfl
            · rw [if_neg q01] at h
              cases h
        · cases h
    · cases h
  · cases h
theorem ms_iald (C : mk_Cx p R s m args meth c XS lo hi cA ad D tys A own bytes n ret d) {j : Int} {s' i : Nat} {κ : Int → mj_R} {r : Option mj_V × mj_M} (hd : decode bytes pc = .ok (.iaload, 1)) (h : mj_ial mk_LY mk_TB j s' i μ κ = some r) : ∃ x, κ x = some r ∧ (mk_W p l e R s m args below meth c Q lo hi cA ad D A n (pc + 1) ls (.inl x :: st) μ → mk_W p l e R s m args below meth c Q lo hi cA ad D A n pc ls (.inl j :: .inr (.inr (s', i)) :: st) μ) := by
  unfold mj_ial at h
  split at h
  · rename_i n' cn sl e1
    split at h
    · rename_i hb
      refine ⟨_, h, fun k H locs Ls ⟨h1, h2, h3, h4, h5⟩ => ?_⟩
      obtain ⟨hj, h6⟩ := mk_st h3
      obtain ⟨hr, h6⟩ := mk_st h6
      obtain ⟨g1, g2, g3⟩ := mk_vr_in hr (by rw [e1]; exact (by decide : 1 < 4))
      obtain ⟨q, hq⟩ := mk_cell_at g1 g2 g3
      have hat := mk_ws_at (cA := cA) (ad := ad) (μ := μ) hq
      have hen : mk_en cA ad μ s' i = .inl (cA s', n', .inl (fun j => Int32.ofInt (μ s' i j))) := by simp only [mk_en, e1]
      rw [hen] at hat
      obtain ⟨t0, ht0⟩ := (C.2.2.2.2.2.2.2.2.1 s' g1 g2).1 (by rw [e1])
      refine va_iald C.1 C.2.1 C.2.2.2.2.2.2.2.1 h5.1 q t0 hat ht0 (mj_vin hj hb) hd ?_
      rw [mj_clN hj]
      exact k H locs Ls ⟨h1, h2, mk_sc ((h4 s' i j.toNat).2 (by rw [e1]; exact fun q => by cases q)) h6, h4, h5⟩
    · cases h
  · rename_i n' cn sl e1
    obtain ⟨x, h1, -, hj0, l', hl1, hl2⟩ := mj_tb4_pu h
    refine ⟨x, h1, fun k H locs Ls ⟨h1, h2, h3, h4, h5⟩ => ?_⟩
    obtain ⟨hj, h6⟩ := mk_st h3
    obtain ⟨hr, h7⟩ := mk_st h6
    have hs : s' = 64 ∧ i = 0 := by
      rcases hr with ⟨g1, g2, -⟩ | ⟨rfl, -⟩ | h
      · exact absurd (by rw [e1] : (mj_srt mk_LY s').1 = 5) (mk_closed_5 C.2.2.2.2.2.2.2.2.2.2.2.2.1 g1 g2)
      · have e2 : mj_srt mk_LY 63 = (4, 0, 1, []) := rfl
        rw [e2] at e1
        cases e1
      · exact h
    obtain ⟨rfl, rfl⟩ := hs
    have e1' : mj_srt mk_LY 64 = (5, 1, 1, []) := rfl
    rw [e1'] at e1
    cases e1
    have e2 : mj_nth mk_TB 1 = some [-1, 0, 0, 2, 0, 1] := rfl
    rw [e2] at hl1
    cases hl1
    have hlt : j.toNat < 6 := mj_nth_lt _ _ _ hl2
    have hx : mk_ab j.toNat = .int (Int32.ofInt x) := by unfold mk_ab; rw [hl2]; rfl
    obtain ⟨cell, t1, t2, t3, t4, t5, t6, t7⟩ := C.2.2.2.2.2.2.2.2.2.1.2.2.1
    refine W.iald C.1 C.2.1 (cell := cell) (j := Int32.ofInt j) (v := .int (Int32.ofInt x)) ?_ t2 t3 ?_ ?_ rfl rfl hd ?_
    · rw [h5.2.2.2.1 _ (Array.getElem?_eq_some_iff.mp t1).1 t7]
      exact t1
    · rw [mj_clN hj]
      rintro (q | q)
      · have := (mj_I_lt hj mj_n0).mp q
        omega
      · omega
    · rw [mj_clN hj, t6 _ hlt, hx]
    · refine k H locs Ls ⟨h1, h2, mk_sc ?_ h7, h4, h5⟩
      have : ∀ q : Nat, q < 6 → ∀ x, mj_nth [-1, 0, 0, 2, 0, (1 : Int)] q = some x → mj_n32 x := by
        intro q hq x hx
        have : x = -1 ∨ x = 0 ∨ x = 2 ∨ x = 1 := by
          match q, hx with
          | 0, hx => cases hx; simp
          | 1, hx => cases hx; simp
          | 2, hx => cases hx; simp
          | 3, hx => cases hx; simp
          | 4, hx => cases hx; simp
          | 5, hx => cases hx; simp
          | q + 6, hx => cases hx
        unfold mj_n32
        omega
      exact this _ hlt _ hl2
  · cases h
theorem ms_lald (C : mk_Cx p R s m args meth c XS lo hi cA ad D tys A own bytes n ret d) {j : Int} {s' i : Nat} {κ : Int → mj_R} {r : Option mj_V × mj_M} (hd : decode bytes pc = .ok (.laload, 1)) (h : mj_lal mk_LY j s' i μ κ = some r) : ∃ x, κ x = some r ∧ (mk_W p l e R s m args below meth c Q lo hi cA ad D A n (pc + 1) ls (.inr (.inl x) :: st) μ → mk_W p l e R s m args below meth c Q lo hi cA ad D A n pc ls (.inl j :: .inr (.inr (s', i)) :: st) μ) := by
  unfold mj_lal at h
  split at h
  · rename_i n' cn sl e1
    split at h
    · rename_i hb
      refine ⟨_, h, fun k H locs Ls ⟨h1, h2, h3, h4, h5⟩ => ?_⟩
      obtain ⟨hj, h6⟩ := mk_st h3
      obtain ⟨hr, h6⟩ := mk_st h6
      obtain ⟨g1, g2, g3⟩ := mk_vr_in hr (by rw [e1]; exact (by decide : 2 < 4))
      obtain ⟨q, hq⟩ := mk_cell_at g1 g2 g3
      have hat := mk_ws_at (cA := cA) (ad := ad) (μ := μ) hq
      have hen : mk_en cA ad μ s' i = .inl (cA s', n', .inr (.inl (fun j => Int64.ofInt (μ s' i j)))) := by simp only [mk_en, e1]
      rw [hen] at hat
      obtain ⟨t0, ht0⟩ := (C.2.2.2.2.2.2.2.2.1 s' g1 g2).2.1 (by rw [e1])
      refine va_lald C.1 C.2.1 C.2.2.2.2.2.2.2.1 h5.1 q t0 hat ht0 (mj_vin hj hb) hd ?_
      rw [mj_clN hj]
      exact k H locs Ls ⟨h1, h2, mk_sc (h4 s' i j.toNat).1 h6, h4, h5⟩
    · cases h
  · cases h
theorem ms_iast (C : mk_Cx p R s m args meth c XS lo hi cA ad D tys A own bytes n ret d) {x j : Int} {s' i : Nat} {κ : mj_M → mj_R} {r : Option mj_V × mj_M} (hd : decode bytes pc = .ok (.iastore, 1)) (h : mj_ias mk_LY x j s' i μ κ = some r) : ∃ μ', κ μ' = some r ∧ (mk_W p l e R s m args below meth c Q lo hi cA ad D A n (pc + 1) ls st μ' → mk_W p l e R s m args below meth c Q lo hi cA ad D A n pc ls (.inl x :: .inl j :: .inr (.inr (s', i)) :: st) μ) := by
  unfold mj_ias at h
  split at h
  · rename_i n' cn sl e1
    split at h
    · rename_i hb
      refine ⟨_, h, fun k H locs Ls ⟨h1, h2, h3, h4, h5⟩ => ?_⟩
      obtain ⟨hx, h6⟩ := mk_st h3
      obtain ⟨hj, h6⟩ := mk_st h6
      obtain ⟨hr, h6⟩ := mk_st h6
      obtain ⟨g1, g2, g3⟩ := mk_vr_in hr (by rw [e1]; exact (by decide : 1 < 4))
      obtain ⟨q, hq⟩ := mk_cell_at g1 g2 g3
      have hat := mk_ws_at (cA := cA) (ad := ad) (μ := μ) hq
      have hen : ∀ μ, mk_en cA ad μ s' i = .inl (cA s', n', .inl (fun j => Int32.ofInt (μ s' i j))) := by intro μ; simp only [mk_en, e1]
      rw [hen] at hat
      obtain ⟨t0, ht0⟩ := (C.2.2.2.2.2.2.2.2.1 s' g1 g2).1 (by rw [e1])
      refine va_iast C.1 C.2.1 C.2.2.2.2.2.2.2.1 h5.1 h5.2.1 h5.2.2 q t0 hat ht0 (mj_vin hj hb) hd (fun H1 locs1 hP hD hS => ?_)
      have hu : upd (fun j => Int32.ofInt (μ s' i j)) (Int32.ofInt j).toNatClampNeg (Int32.ofInt x) = fun q => Int32.ofInt (mj_up μ s' i j.toNat x s' i q) := by
        funext z
        rw [mj_clN hj]
        unfold upd mj_up
        by_cases hz : z = j.toNat
        · rw [if_pos hz, if_pos ⟨rfl, hz, rfl⟩]
        · rw [if_neg hz, if_neg (fun w => hz w.2.1)]
      rw [hu] at hP hD
      have hset := mk_ws_set (cA := cA) (ad := ad) (μ := μ) (μ' := mj_up μ s' i j.toNat x) C.2.2.2.2.2.2.2.2.2.2.2.1 hq (hen _).symm (fun _ _ h => mk_en_off h)
      rw [hset] at hP hD
      exact k H1 locs1 Ls ⟨h1, h2, h6, mk_vm_up h4 (mj_n32_64 hx) (fun _ => hx), hP, hD, hS⟩
    · cases h
  · cases h
theorem ms_last (C : mk_Cx p R s m args meth c XS lo hi cA ad D tys A own bytes n ret d) {x j : Int} {s' i : Nat} {κ : mj_M → mj_R} {r : Option mj_V × mj_M} (hd : decode bytes pc = .ok (.lastore, 1)) (h : mj_las mk_LY x j s' i μ κ = some r) : ∃ μ', κ μ' = some r ∧ (mk_W p l e R s m args below meth c Q lo hi cA ad D A n (pc + 1) ls st μ' → mk_W p l e R s m args below meth c Q lo hi cA ad D A n pc ls (.inr (.inl x) :: .inl j :: .inr (.inr (s', i)) :: st) μ) := by
  unfold mj_las at h
  split at h
  · rename_i n' cn sl e1
    split at h
    · rename_i hb
      refine ⟨_, h, fun k H locs Ls ⟨h1, h2, h3, h4, h5⟩ => ?_⟩
      obtain ⟨hx, h6⟩ := mk_st h3
      obtain ⟨hj, h6⟩ := mk_st h6
      obtain ⟨hr, h6⟩ := mk_st h6
      obtain ⟨g1, g2, g3⟩ := mk_vr_in hr (by rw [e1]; exact (by decide : 2 < 4))
      obtain ⟨q, hq⟩ := mk_cell_at g1 g2 g3
      have hat := mk_ws_at (cA := cA) (ad := ad) (μ := μ) hq
      have hen : ∀ μ, mk_en cA ad μ s' i = .inl (cA s', n', .inr (.inl (fun j => Int64.ofInt (μ s' i j)))) := by intro μ; simp only [mk_en, e1]
      rw [hen] at hat
      obtain ⟨t0, ht0⟩ := (C.2.2.2.2.2.2.2.2.1 s' g1 g2).2.1 (by rw [e1])
      refine va_last C.1 C.2.1 C.2.2.2.2.2.2.2.1 h5.1 h5.2.1 h5.2.2 q t0 hat ht0 (mj_vin hj hb) hd (fun H1 locs1 hP hD hS => ?_)
      have hu : vp_updL (fun j => Int64.ofInt (μ s' i j)) (Int32.ofInt j).toNatClampNeg (Int64.ofInt x) = fun q => Int64.ofInt (mj_up μ s' i j.toNat x s' i q) := by
        funext z
        rw [mj_clN hj]
        unfold vp_updL mj_up
        by_cases hz : z = j.toNat
        · rw [if_pos hz, if_pos ⟨rfl, hz, rfl⟩]
        · rw [if_neg hz, if_neg (fun w => hz w.2.1)]
      rw [hu] at hP hD
      have hset := mk_ws_set (cA := cA) (ad := ad) (μ := μ) (μ' := mj_up μ s' i j.toNat x) C.2.2.2.2.2.2.2.2.2.2.2.1 hq (hen _).symm (fun _ _ h => mk_en_off h)
      rw [hset] at hP hD
      exact k H1 locs1 Ls ⟨h1, h2, h6, mk_vm_up h4 hx (fun q => absurd (by rw [e1]) q), hP, hD, hS⟩
    · cases h
  · cases h
theorem ms_aald (C : mk_Cx p R s m args meth c XS lo hi cA ad D tys A own bytes n ret d) {j : Int} {s' i : Nat} {κ : Nat → Nat → mj_R} {r : Option mj_V × mj_M} (hd : decode bytes pc = .ok (.aaload, 1)) (h : mj_aal mk_LY j s' κ = some r) : ∃ t o, κ t o = some r ∧ (mk_W p l e R s m args below meth c Q lo hi cA ad D A n (pc + 1) ls (.inr (.inr (t, o)) :: st) μ → mk_W p l e R s m args below meth c Q lo hi cA ad D A n pc ls (.inl j :: .inr (.inr (s', i)) :: st) μ) := by
  unfold mj_aal at h
  split at h
  · rename_i n' cn t o e1
    split at h
    · rename_i hb
      refine ⟨_, _, h, fun k H locs Ls ⟨h1, h2, h3, h4, h5⟩ => ?_⟩
      obtain ⟨hj, h6⟩ := mk_st h3
      obtain ⟨hr, h6⟩ := mk_st h6
      obtain ⟨g1, g2, g3⟩ := mk_vr_in hr (by rw [e1]; exact (by decide : 3 < 4))
      obtain ⟨q, hq⟩ := mk_cell_at g1 g2 g3
      have hat := mk_ws_at (cA := cA) (ad := ad) (μ := μ) hq
      have hen : mk_en cA ad μ s' i = .inl (cA s', n', .inr (.inr (.inr (.inr (fun j => some (ad t (j + o))))))) := by simp only [mk_en, e1]
      rw [hen] at hat
      obtain ⟨t0, Cn, ht0⟩ := (C.2.2.2.2.2.2.2.2.1 s' g1 g2).2.2 (by rw [e1])
      refine va_aldq C.1 C.2.1 C.2.2.2.2.2.2.2.1 h5.1 q t0 hat ht0 (mj_vin hj hb) hd ?_
      dsimp only [va_rf]
      rw [mj_clN hj]
      obtain ⟨q1, q2, q3⟩ := (mk_closed_at C.2.2.2.2.2.2.2.2.2.2.2.2.1 g1 g2).2.2 n' cn t o e1
      exact k H locs Ls ⟨h1, h2, mk_sc (Or.inl ⟨q1, q2, by omega⟩) h6, h4, h5⟩
    · cases h
  · cases h
theorem ms_max (C : mk_Cx p R s m args meth c XS lo hi cA ad D tys A own bytes n ret d) {idx : Nat} {x y : Int} (hd : decode bytes pc = .ok (.invokestatic idx, 3)) (hw : Cond.methodLink (mk_cn own) idx Lib.Math.max.name ∈ mk_tb) (hc : mj_cat st ≤ 8) (k : mk_W p l e R s m args below meth c Q lo hi cA ad D A n (pc + 3) ls (.inl (if x < y then y else x) :: st) μ) : mk_W p l e R s m args below meth c Q lo hi cA ad D A n pc ls (.inl y :: .inl x :: st) μ := by
  intro H locs Ls ⟨h1, h2, h3, h4, h5⟩
  obtain ⟨hy, h6⟩ := mk_st h3
  obtain ⟨hx, h6⟩ := mk_st h6
  obtain ⟨r1, r2⟩ := C.2.2.2.2.2.2.2.2.2.2.2.2.2
  refine va_mmax C.1 C.2.1 (C.2.2.2.1.trans h1.1.1.symm) C.2.2.2.2.1 (C.2.2.2.2.2.1 _ hw) (C.2.2.2.2.2.1 _ mk_maxs) (C.2.2.2.2.2.1 _ mk_maxi) (C.2.2.2.2.2.1 _ mk_maxc) (by omega) (by rw [mk_cats]; omega) (Nat.zero_le _) (Nat.zero_le _) hd ?_
  have e : (if Int32.ofInt x < Int32.ofInt y then Int32.ofInt y else Int32.ofInt x) = Int32.ofInt (if x < y then y else x) := by
    by_cases q : x < y
    · rw [if_pos q, if_pos ((mj_I_lt hx hy).mpr q)]
    · rw [if_neg q, if_neg (fun w => q ((mj_I_lt hx hy).mp w))]
  rw [e]
  refine k H locs Ls ⟨h1, h2, mk_sc ?_ h6, h4, h5⟩
  show mj_n32 _
  split
  · exact hy
  · exact hx
theorem ms_acp (C : mk_Cx p R s m args meth c XS lo hi cA ad D tys A own bytes n ret d) {idx : Nat} {κ : List mj_V → mj_M → mj_R} {r : Option mj_V × mj_M} (hd : decode bytes pc = .ok (.invokestatic idx, 3)) (hw : Cond.methodLink (mk_cn own) idx arraycopyName ∈ mk_tb) (h : mj_acp mk_LY st μ κ = some r) : ∃ st' μ', κ st' μ' = some r ∧ (mj_cat st' ≤ 8 → mk_W p l e R s m args below meth c Q lo hi cA ad D A n (pc + 3) ls st' μ' → mk_W p l e R s m args below meth c Q lo hi cA ad D A n pc ls st μ) := by
  unfold mj_acp at h
  split at h
  · rename_i nn qq s2 i2 pp s1 i1 rr
    split at h
    · rename_i m1 c1 sl1 m2 c2 sl2 e1 e2
      split at h
      · rename_i hb
        refine ⟨_, _, h, fun hc k H locs Ls ⟨h1, h2, h3, h4, h5⟩ => ?_⟩
        obtain ⟨v1, h6⟩ := mk_st h3
        obtain ⟨v2, h6⟩ := mk_st h6
        obtain ⟨v3, h6⟩ := mk_st h6
        obtain ⟨v4, h6⟩ := mk_st h6
        obtain ⟨v5, h6⟩ := mk_st h6
        obtain ⟨f1, f2, f3⟩ := mk_vr_in v3 (by rw [e2]; exact (by decide : 1 < 4))
        obtain ⟨g1, g2, g3⟩ := mk_vr_in v5 (by rw [e1]; exact (by decide : 1 < 4))
        obtain ⟨q1, hq1⟩ := mk_cell_at g1 g2 g3
        obtain ⟨q2, hq2⟩ := mk_cell_at f1 f2 f3
        have hat1 := mk_ws_at (cA := cA) (ad := ad) (μ := μ) hq1
        have hat2 := mk_ws_at (cA := cA) (ad := ad) (μ := μ) hq2
        have hen1 : ∀ μ, mk_en cA ad μ s1 i1 = .inl (cA s1, m1, .inl (fun j => Int32.ofInt (μ s1 i1 j))) := by intro μ; simp only [mk_en, e1]
        have hen2 : ∀ μ, mk_en cA ad μ s2 i2 = .inl (cA s2, m2, .inl (fun j => Int32.ofInt (μ s2 i2 j))) := by intro μ; simp only [mk_en, e2]
        rw [hen1] at hat1
        rw [hen2] at hat2
        obtain ⟨t1, ht1⟩ := (C.2.2.2.2.2.2.2.2.1 s1 g1 g2).1 (by rw [e1])
        obtain ⟨t2, ht2⟩ := (C.2.2.2.2.2.2.2.2.1 s2 f1 f2).1 (by rw [e2])
        obtain ⟨r1, r2⟩ := C.2.2.2.2.2.2.2.2.2.2.2.2.2
        obtain ⟨b1, b2, b3, b4, b5⟩ := hb
        refine va_copyi C.1 C.2.1 (C.2.2.2.1.trans h1.1.1.symm) C.2.2.2.2.1 (C.2.2.2.2.2.1 _ hw) (C.2.2.2.2.2.1 _ mk_acpn) (C.2.2.2.2.2.1 _ mk_acps) (C.2.2.2.2.2.1 _ mk_acpi) C.2.2.2.2.2.2.2.1 h5.1 h5.2.1 h5.2.2 q1 q2 t1 t2 hat1 hat2 ht1 ht2 rfl (sp := Int32.ofInt pp) (dp := Int32.ofInt qq) (n := Int32.ofInt nn)
          (fun q => by have := (mj_I_lt v4 mj_n0).mp q; omega) (fun q => by have := (mj_I_lt v2 mj_n0).mp q; omega) (fun q => by have := (mj_I_lt v1 mj_n0).mp q; omega) (by rw [mj_clN v4, mj_clN v1]; omega) (by rw [mj_clN v2, mj_clN v1]; omega) (fun _ _ => rfl) (by omega) (by rw [mk_cats]; have := mk_nfw; omega) hd (fun H1 locs1 hP hD hS => ?_)
        have hu : va_cpy (fun j => Int32.ofInt (μ s1 i1 j)) (fun j => Int32.ofInt (μ s2 i2 j)) (Int32.ofInt pp).toNatClampNeg (Int32.ofInt qq).toNatClampNeg (Int32.ofInt nn).toNatClampNeg = fun z => Int32.ofInt (mj_cpy μ s1 i1 pp.toNat s2 i2 qq.toNat nn.toNat s2 i2 z) := by
          funext z
          rw [mj_clN v4, mj_clN v2, mj_clN v1]
          unfold va_cpy mj_cpy
          by_cases hz : qq.toNat ≤ z ∧ z < qq.toNat + nn.toNat
          · rw [if_pos hz, if_pos ⟨rfl, rfl, hz⟩]
          · rw [if_neg hz, if_neg (fun w => hz w.2.2)]
        rw [hu] at hP hD
        have hset := mk_ws_set (cA := cA) (ad := ad) (μ := μ) (μ' := mj_cpy μ s1 i1 pp.toNat s2 i2 qq.toNat nn.toNat) C.2.2.2.2.2.2.2.2.2.2.2.1 hq2 (hen2 _).symm (fun s' i' hne => mk_en_of (fun z => by
          unfold mj_cpy
          rw [if_neg]
          rintro ⟨w1, w2, -⟩
          rcases hne with hne | hne
          · exact hne w1
          · exact hne w2))
        rw [hset] at hP hD
        refine k H1 locs1 Ls ⟨h1, h2, h6, fun s' i' z => ?_, hP, hD, hS⟩
        unfold mj_cpy
        split
        · rename_i hz
          have := h4 s1 i1 (pp.toNat + (z - qq.toNat))
          exact ⟨this.1, fun _ => this.2 (by rw [e1]; exact fun q => by cases q)⟩
        · exact h4 s' i' z
      · cases h
    · cases h
  · cases h
end MH
