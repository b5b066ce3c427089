/-! the laws of the steps -/
theorem mk_sc {lo hi : Nat} {v : mj_V} {st : List mj_V} (h : mk_vv lo hi v) (h2 : ∀ v ∈ st, mk_vv lo hi v) : ∀ w ∈ v :: st, mk_vv lo hi w := fun w hw => by
  rcases List.mem_cons.mp hw with rfl | hw
  · exact h
  · exact h2 w hw
theorem mk_st {lo hi : Nat} {v : mj_V} {st : List mj_V} (h : ∀ w ∈ v :: st, mk_vv lo hi w) : mk_vv lo hi v ∧ ∀ w ∈ st, mk_vv lo hi w := ⟨h v List.mem_cons_self, fun w hw => h w (List.mem_cons_of_mem _ hw)⟩
theorem mk_b8 {n : Int} (h : -128 ≤ n ∧ n < 128) : (Int8.ofInt n).toInt32 = Int32.ofInt n := by
  apply Int32.toInt_inj.1
  rw [mj_tI (by unfold mj_n32; omega), Int8.toInt_toInt32, Int8.toInt_ofInt_of_le (by omega) (by omega)]
theorem mk_b16 {n : Int} (h : -32768 ≤ n ∧ n < 32768) : (Int16.ofInt n).toInt32 = Int32.ofInt n := by
  apply Int32.toInt_inj.1
  rw [mj_tI (by unfold mj_n32; omega), Int16.toInt_toInt32, Int16.toInt_ofInt_of_le (by omega) (by omega)]
theorem mk_vset {lo hi a : Nat} {ls : mj_L} {v : mj_V} (h : ∀ i v, mj_nth ls i = some (some v) → mk_vv lo hi v) (hv : mk_vv lo hi v) : ∀ i w, mj_nth (mj_set ls a (some v)) i = some (some w) → mk_vv lo hi w := by
  intro i w hi
  rw [mj_nth_set] at hi
  split at hi
  · split at hi
    · cases hi; exact hv
    · cases hi
  · exact h i w hi
theorem mk_vset0 {lo hi a : Nat} {ls : mj_L} (h : ∀ i v, mj_nth ls i = some (some v) → mk_vv lo hi v) : ∀ i w, mj_nth (mj_set ls a none) i = some (some w) → mk_vv lo hi w := by
  intro i w hi
  rw [mj_nth_set] at hi
  split at hi
  · split at hi <;> cases hi
  · exact h i w hi
section MS
variable {p : Program} {l : Launch} {e : Env} {R : Room} {s : State} {m : MethodId} {args : Array Value} {below : List Frame} {meth : Method} {c : Code} {Q : State → Prop} {XS : (Nat → Prop) → State → Prop} {lo hi : Nat} {cA : Nat → ClassId} {ad : mk_AD} {D : va_G} {tys : List (ClassId × FieldType)} {A : Nat → Prop} {own : Nat} {bytes : ByteArray} {n : Nat} {ret : Option FieldType} {d : Nat}
variable {pc : Nat} {ls : mj_L} {st : List mj_V} {μ : mj_M}
theorem ms_iconst (C : mk_Cx p R s m args meth c XS lo hi cA ad D tys A own bytes n ret d) {v : Int} (hd : decode bytes pc = .ok (.iconst v, 1)) (hv : mj_n32 v) (k : mk_W p l e R s m args below meth c Q lo hi cA ad D A n (pc + 1) ls (.inl v :: st) μ) : mk_W p l e R s m args below meth c Q lo hi cA ad D A n pc ls st μ := by
  intro H locs Ls ⟨h1, h2, h3, h4, h5⟩
  refine lv_iconst C.1 C.2.1 hd rfl ?_
  exact k H locs Ls ⟨h1, h2, mk_sc hv h3, h4, h5⟩
theorem ms_bipush (C : mk_Cx p R s m args meth c XS lo hi cA ad D tys A own bytes n ret d) {v : Int} (hd : decode bytes pc = .ok (.bipush v, 2)) (hv : -128 ≤ v ∧ v < 128) (k : mk_W p l e R s m args below meth c Q lo hi cA ad D A n (pc + 2) ls (.inl v :: st) μ) : mk_W p l e R s m args below meth c Q lo hi cA ad D A n pc ls st μ := by
  intro H locs Ls ⟨h1, h2, h3, h4, h5⟩
  refine lv_bipush C.1 C.2.1 hd (mk_b8 hv) ?_
  exact k H locs Ls ⟨h1, h2, mk_sc (show mj_n32 v by unfold mj_n32; omega) h3, h4, h5⟩
theorem ms_sipush (C : mk_Cx p R s m args meth c XS lo hi cA ad D tys A own bytes n ret d) {v : Int} (hd : decode bytes pc = .ok (.sipush v, 3)) (hv : -32768 ≤ v ∧ v < 32768) (k : mk_W p l e R s m args below meth c Q lo hi cA ad D A n (pc + 3) ls (.inl v :: st) μ) : mk_W p l e R s m args below meth c Q lo hi cA ad D A n pc ls st μ := by
  intro H locs Ls ⟨h1, h2, h3, h4, h5⟩
  refine lv_sipush C.1 C.2.1 hd (mk_b16 hv) ?_
  exact k H locs Ls ⟨h1, h2, mk_sc (show mj_n32 v by unfold mj_n32; omega) h3, h4, h5⟩
theorem ms_lconst (C : mk_Cx p R s m args meth c XS lo hi cA ad D tys A own bytes n ret d) {v : Fin 2} (hd : decode bytes pc = .ok (.lconst v, 1)) (k : mk_W p l e R s m args below meth c Q lo hi cA ad D A n (pc + 1) ls (.inr (.inl (v.val : Int)) :: st) μ) : mk_W p l e R s m args below meth c Q lo hi cA ad D A n pc ls st μ := by
  intro H locs Ls ⟨h1, h2, h3, h4, h5⟩
  refine lv_lconst C.1 C.2.1 hd (show _ = Int64.ofInt ((v.val : Nat) : Int) from Int64.ofInt_eq_ofNat.symm) ?_
  exact k H locs Ls ⟨h1, h2, mk_sc (show mj_n64 _ by have := v.isLt; unfold mj_n64; omega) h3, h4, h5⟩
theorem ms_iload (C : mk_Cx p R s m args meth c XS lo hi cA ad D tys A own bytes n ret d) {a : Nat} {x : Int} (hd : decode bytes pc = .ok (.iload a, 2)) (hx : mj_nth ls a = some (some (.inl x))) (k : mk_W p l e R s m args below meth c Q lo hi cA ad D A n (pc + 2) ls (.inl x :: st) μ) : mk_W p l e R s m args below meth c Q lo hi cA ad D A n pc ls st μ := by
  intro H locs Ls ⟨h1, h2, h3, h4, h5⟩
  refine lv_iload C.1 C.2.1 hd (h1.2 a _ hx) ?_
  exact k H locs Ls ⟨h1, h2, mk_sc (h2 a _ hx) h3, h4, h5⟩
theorem ms_iload_n (C : mk_Cx p R s m args meth c XS lo hi cA ad D tys A own bytes n ret d) {f : Fin 4} {a : Nat} {x : Int} (hd : decode bytes pc = .ok (.iload_n f, 1)) (hf : f.val = a) (hx : mj_nth ls a = some (some (.inl x))) (k : mk_W p l e R s m args below meth c Q lo hi cA ad D A n (pc + 1) ls (.inl x :: st) μ) : mk_W p l e R s m args below meth c Q lo hi cA ad D A n pc ls st μ := by
  intro H locs Ls ⟨h1, h2, h3, h4, h5⟩
  refine lv_iload_n C.1 C.2.1 hd hf (h1.2 a _ hx) ?_
  exact k H locs Ls ⟨h1, h2, mk_sc (h2 a _ hx) h3, h4, h5⟩
theorem ms_lload (C : mk_Cx p R s m args meth c XS lo hi cA ad D tys A own bytes n ret d) {a : Nat} {x : Int} (hd : decode bytes pc = .ok (.lload a, 2)) (hx : mj_nth ls a = some (some (.inr (.inl x)))) (k : mk_W p l e R s m args below meth c Q lo hi cA ad D A n (pc + 2) ls (.inr (.inl x) :: st) μ) : mk_W p l e R s m args below meth c Q lo hi cA ad D A n pc ls st μ := by
  intro H locs Ls ⟨h1, h2, h3, h4, h5⟩
  refine lv_lload C.1 C.2.1 hd (h1.2 a _ hx) ?_
  exact k H locs Ls ⟨h1, h2, mk_sc (h2 a _ hx) h3, h4, h5⟩
theorem ms_lload_n (C : mk_Cx p R s m args meth c XS lo hi cA ad D tys A own bytes n ret d) {f : Fin 4} {a : Nat} {x : Int} (hd : decode bytes pc = .ok (.lload_n f, 1)) (hf : f.val = a) (hx : mj_nth ls a = some (some (.inr (.inl x)))) (k : mk_W p l e R s m args below meth c Q lo hi cA ad D A n (pc + 1) ls (.inr (.inl x) :: st) μ) : mk_W p l e R s m args below meth c Q lo hi cA ad D A n pc ls st μ := by
  intro H locs Ls ⟨h1, h2, h3, h4, h5⟩
  refine lv_lload_n C.1 C.2.1 hd hf (h1.2 a _ hx) ?_
  exact k H locs Ls ⟨h1, h2, mk_sc (h2 a _ hx) h3, h4, h5⟩
theorem ms_aload (C : mk_Cx p R s m args meth c XS lo hi cA ad D tys A own bytes n ret d) {a q i : Nat} (hd : decode bytes pc = .ok (.aload a, 2)) (hx : mj_nth ls a = some (some (.inr (.inr (q, i))))) (k : mk_W p l e R s m args below meth c Q lo hi cA ad D A n (pc + 2) ls (.inr (.inr (q, i)) :: st) μ) : mk_W p l e R s m args below meth c Q lo hi cA ad D A n pc ls st μ := by
  intro H locs Ls ⟨h1, h2, h3, h4, h5⟩
  refine lv_aload C.1 C.2.1 hd (h1.2 a _ hx) ?_
  exact k H locs Ls ⟨h1, h2, mk_sc (h2 a _ hx) h3, h4, h5⟩
theorem ms_aload_n (C : mk_Cx p R s m args meth c XS lo hi cA ad D tys A own bytes n ret d) {f : Fin 4} {a q i : Nat} (hd : decode bytes pc = .ok (.aload_n f, 1)) (hf : f.val = a) (hx : mj_nth ls a = some (some (.inr (.inr (q, i))))) (k : mk_W p l e R s m args below meth c Q lo hi cA ad D A n (pc + 1) ls (.inr (.inr (q, i)) :: st) μ) : mk_W p l e R s m args below meth c Q lo hi cA ad D A n pc ls st μ := by
  intro H locs Ls ⟨h1, h2, h3, h4, h5⟩
  refine lv_aload_n C.1 C.2.1 hd hf (h1.2 a _ hx) ?_
  exact k H locs Ls ⟨h1, h2, mk_sc (h2 a _ hx) h3, h4, h5⟩
theorem ms_ldc (C : mk_Cx p R s m args meth c XS lo hi cA ad D tys A own bytes n ret d) {idx : Nat} {v : Int} (hd : decode bytes pc = .ok (.ldc idx, 2)) (hw : Cond.constant (mk_cn own) idx (Int32.ofInt v) ∈ mk_tb) (hv : mj_n32 v) (k : mk_W p l e R s m args below meth c Q lo hi cA ad D A n (pc + 2) ls (.inl v :: st) μ) : mk_W p l e R s m args below meth c Q lo hi cA ad D A n pc ls st μ := by
  intro H locs Ls ⟨h1, h2, h3, h4, h5⟩
  refine lv_ldc C.1 C.2.1 C.2.2.2.2.1 (C.2.2.2.2.2.1 _ hw) hd ?_
  exact k H locs Ls ⟨h1, h2, mk_sc hv h3, h4, h5⟩
theorem ms_ldcw (C : mk_Cx p R s m args meth c XS lo hi cA ad D tys A own bytes n ret d) {idx : Nat} {v : Int} (hd : decode bytes pc = .ok (.ldc_w idx, 3)) (hw : Cond.constant (mk_cn own) idx (Int32.ofInt v) ∈ mk_tb) (hv : mj_n32 v) (k : mk_W p l e R s m args below meth c Q lo hi cA ad D A n (pc + 3) ls (.inl v :: st) μ) : mk_W p l e R s m args below meth c Q lo hi cA ad D A n pc ls st μ := by
  intro H locs Ls ⟨h1, h2, h3, h4, h5⟩
  refine lv_ldcw C.1 C.2.1 C.2.2.2.2.1 (C.2.2.2.2.2.1 _ hw) hd ?_
  exact k H locs Ls ⟨h1, h2, mk_sc hv h3, h4, h5⟩
theorem ms_ldc2 (C : mk_Cx p R s m args meth c XS lo hi cA ad D tys A own bytes n ret d) {idx : Nat} {v : Int} (hd : decode bytes pc = .ok (.ldc2_w idx, 3)) (hw : Cond.constantLong (mk_cn own) idx (Int64.ofInt v) ∈ mk_tb) (hv : mj_n64 v) (k : mk_W p l e R s m args below meth c Q lo hi cA ad D A n (pc + 3) ls (.inr (.inl v) :: st) μ) : mk_W p l e R s m args below meth c Q lo hi cA ad D A n pc ls st μ := by
  intro H locs Ls ⟨h1, h2, h3, h4, h5⟩
  refine lv_ldc2 C.1 C.2.1 C.2.2.2.2.1 (C.2.2.2.2.2.1 _ hw) hd ?_
  exact k H locs Ls ⟨h1, h2, mk_sc hv h3, h4, h5⟩
theorem ms_getstatic (C : mk_Cx p R s m args meth c XS lo hi cA ad D tys A own bytes n ret d) {idx : Nat} (ho : own = 0) (hd : decode bytes pc = .ok (.getstatic idx, 3)) (hw : Cond.fieldLink (mk_cn own) idx "NumbersCalled$Asker" "ABOVE" "[I" ∈ mk_tb) (k : mk_W p l e R s m args below meth c Q lo hi cA ad D A n (pc + 3) ls (.inr (.inr (64, 0)) :: st) μ) : mk_W p l e R s m args below meth c Q lo hi cA ad D A n pc ls st μ := by
  intro H locs Ls ⟨h1, h2, h3, h4, h5⟩
  refine va_gets C.1 C.2.1 C.2.2.2.2.2.2.2.2.2.1.2.1 h5.2.2 C.2.2.2.2.1 (C.2.2.2.2.2.1 _ hw) (fun _ h => h) hd ?_
  exact k H locs Ls ⟨h1, h2, mk_sc (show mk_vr lo hi 64 0 from Or.inr (Or.inr ⟨rfl, rfl⟩)) h3, h4, h5⟩
theorem ms_istore (C : mk_Cx p R s m args meth c XS lo hi cA ad D tys A own bytes n ret d) {a : Nat} {x : Int} (hd : decode bytes pc = .ok (.istore a, 2)) (ha : a < n) (hp : ∀ j x, a = j + 1 → mj_nth ls j ≠ some (some (.inr (.inl x)))) (k : mk_W p l e R s m args below meth c Q lo hi cA ad D A n (pc + 2) (mj_set ls a (some (.inl x))) st μ) : mk_W p l e R s m args below meth c Q lo hi cA ad D A n pc ls (.inl x :: st) μ := by
  intro H locs Ls ⟨h1, h2, h3, h4, h5⟩
  obtain ⟨h6, h7⟩ := mk_st h3
  refine lv_istore (lv := mk_asc ad 0 ls) C.1 C.2.1 hd (mk_lok_has h1) ha rfl (fun Ls' h' => ?_)
  exact k H locs Ls' ⟨mk_lok_st (v := .inl x) hp h', mk_vset h2 h6, h7, h4, h5⟩
theorem ms_astore (C : mk_Cx p R s m args meth c XS lo hi cA ad D tys A own bytes n ret d) {a q i : Nat} (hd : decode bytes pc = .ok (.astore a, 2)) (ha : a < n) (hp : ∀ j x, a = j + 1 → mj_nth ls j ≠ some (some (.inr (.inl x)))) (k : mk_W p l e R s m args below meth c Q lo hi cA ad D A n (pc + 2) (mj_set ls a (some (.inr (.inr (q, i))))) st μ) : mk_W p l e R s m args below meth c Q lo hi cA ad D A n pc ls (.inr (.inr (q, i)) :: st) μ := by
  intro H locs Ls ⟨h1, h2, h3, h4, h5⟩
  obtain ⟨h6, h7⟩ := mk_st h3
  refine lv_astore (lv := mk_asc ad 0 ls) C.1 C.2.1 hd (mk_lok_has h1) ha rfl (fun Ls' h' => ?_)
  exact k H locs Ls' ⟨mk_lok_st (v := .inr (.inr (q, i))) hp h', mk_vset h2 h6, h7, h4, h5⟩
theorem ms_lstore (C : mk_Cx p R s m args meth c XS lo hi cA ad D tys A own bytes n ret d) {a : Nat} {x : Int} (hd : decode bytes pc = .ok (.lstore a, 2)) (ha : a + 1 < n) (hp : ∀ j x, a = j + 1 → mj_nth ls j ≠ some (some (.inr (.inl x)))) (k : mk_W p l e R s m args below meth c Q lo hi cA ad D A n (pc + 2) (mj_set (mj_set ls a (some (.inr (.inl x)))) (a + 1) none) st μ) : mk_W p l e R s m args below meth c Q lo hi cA ad D A n pc ls (.inr (.inl x) :: st) μ := by
  intro H locs Ls ⟨h1, h2, h3, h4, h5⟩
  obtain ⟨h6, h7⟩ := mk_st h3
  refine lv_lstore (lv := mk_asc ad 0 ls) C.1 C.2.1 hd (mk_lok_has h1) ha rfl (fun Ls' h' => ?_)
  exact k H locs Ls' ⟨mk_lok_sl hp h', mk_vset0 (mk_vset h2 h6), h7, h4, h5⟩
theorem ms_istore_n (C : mk_Cx p R s m args meth c XS lo hi cA ad D tys A own bytes n ret d) {f : Fin 4} {a : Nat} {x : Int} (hd : decode bytes pc = .ok (.istore_n f, 1)) (hf : f.val = a) (ha : a < n) (hp : ∀ j x, a = j + 1 → mj_nth ls j ≠ some (some (.inr (.inl x)))) (k : mk_W p l e R s m args below meth c Q lo hi cA ad D A n (pc + 1) (mj_set ls a (some (.inl x))) st μ) : mk_W p l e R s m args below meth c Q lo hi cA ad D A n pc ls (.inl x :: st) μ := by
  intro H locs Ls ⟨h1, h2, h3, h4, h5⟩
  obtain ⟨h6, h7⟩ := mk_st h3
  refine lv_istore_n (lv := mk_asc ad 0 ls) C.1 C.2.1 hd hf (mk_lok_has h1) ha rfl (fun Ls' h' => ?_)
  exact k H locs Ls' ⟨mk_lok_st (v := .inl x) hp h', mk_vset h2 h6, h7, h4, h5⟩
theorem ms_astore_n (C : mk_Cx p R s m args meth c XS lo hi cA ad D tys A own bytes n ret d) {f : Fin 4} {a q i : Nat} (hd : decode bytes pc = .ok (.astore_n f, 1)) (hf : f.val = a) (ha : a < n) (hp : ∀ j x, a = j + 1 → mj_nth ls j ≠ some (some (.inr (.inl x)))) (k : mk_W p l e R s m args below meth c Q lo hi cA ad D A n (pc + 1) (mj_set ls a (some (.inr (.inr (q, i))))) st μ) : mk_W p l e R s m args below meth c Q lo hi cA ad D A n pc ls (.inr (.inr (q, i)) :: st) μ := by
  intro H locs Ls ⟨h1, h2, h3, h4, h5⟩
  obtain ⟨h6, h7⟩ := mk_st h3
  refine lv_astore_n (lv := mk_asc ad 0 ls) C.1 C.2.1 hd hf (mk_lok_has h1) ha rfl (fun Ls' h' => ?_)
  exact k H locs Ls' ⟨mk_lok_st (v := .inr (.inr (q, i))) hp h', mk_vset h2 h6, h7, h4, h5⟩
theorem ms_lstore_n (C : mk_Cx p R s m args meth c XS lo hi cA ad D tys A own bytes n ret d) {f : Fin 4} {a : Nat} {x : Int} (hd : decode bytes pc = .ok (.lstore_n f, 1)) (hf : f.val = a) (ha : a + 1 < n) (hp : ∀ j x, a = j + 1 → mj_nth ls j ≠ some (some (.inr (.inl x)))) (k : mk_W p l e R s m args below meth c Q lo hi cA ad D A n (pc + 1) (mj_set (mj_set ls a (some (.inr (.inl x)))) (a + 1) none) st μ) : mk_W p l e R s m args below meth c Q lo hi cA ad D A n pc ls (.inr (.inl x) :: st) μ := by
  intro H locs Ls ⟨h1, h2, h3, h4, h5⟩
  obtain ⟨h6, h7⟩ := mk_st h3
  refine lv_lstore_n (lv := mk_asc ad 0 ls) C.1 C.2.1 hd hf (mk_lok_has h1) ha rfl (fun Ls' h' => ?_)
  exact k H locs Ls' ⟨mk_lok_sl hp h', mk_vset0 (mk_vset h2 h6), h7, h4, h5⟩
theorem ms_iinc (C : mk_Cx p R s m args meth c XS lo hi cA ad D tys A own bytes n ret d) {a : Nat} {x v : Int} (hd : decode bytes pc = .ok (.iinc a v, 3)) (hx : mj_nth ls a = some (some (.inl x))) (ha : a < n) (hp : ∀ j x, a = j + 1 → mj_nth ls j ≠ some (some (.inr (.inl x)))) (k : mk_W p l e R s m args below meth c Q lo hi cA ad D A n (pc + 3) (mj_set ls a (some (.inl (mj_w (x + v))))) st μ) : mk_W p l e R s m args below meth c Q lo hi cA ad D A n pc ls st μ := by
  intro H locs Ls ⟨h1, h2, h3, h4, h5⟩
  obtain ⟨q, hq⟩ := List.getElem?_of_mem ((mk_asc_mem (ad := ad) ls 0 (a, .int (Int32.ofInt x))).mpr ⟨a, .inl x, hx, by rw [Nat.zero_add]; rfl⟩)
  refine lv_iinc (lv := mk_asc ad 0 ls) (v := Int32.ofInt (mj_w (x + v))) C.1 C.2.1 hd (mk_lok_has h1) hq (by rw [mj_I_w, Int32.ofInt_add]) ha rfl (fun Ls' h' => ?_)
  exact k H locs Ls' ⟨mk_lok_st (v := .inl (mj_w (x + v))) hp h', mk_vset h2 (mj_w_in _), h3, h4, h5⟩
theorem ms_bi (C : mk_Cx p R s m args meth c XS lo hi cA ad D tys A own bytes n ret d) {ins : Instr} {x y : Int} {κ : Int → mj_R} {r : Option mj_V × mj_M} (hd : decode bytes pc = .ok (ins, 1)) (h : mj_bi ins x y κ = some r) : ∃ z, κ z = some r ∧ (mk_W p l e R s m args below meth c Q lo hi cA ad D A n (pc + 1) ls (.inl z :: st) μ → mk_W p l e R s m args below meth c Q lo hi cA ad D A n pc ls (.inl y :: .inl x :: st) μ) := by
  unfold mj_bi at h
  split at h
  · refine ⟨_, h, fun k H locs Ls ⟨h1, h2, h3, h4, h5⟩ => lv_iadd C.1 C.2.1 hd ?_⟩
    obtain ⟨hy, h3⟩ := mk_st h3; obtain ⟨hx, h3⟩ := mk_st h3
    rw [← Int32.ofInt_add, ← mj_I_w]
    exact k H locs Ls ⟨h1, h2, mk_sc (mj_w_in _) h3, h4, h5⟩
  · refine ⟨_, h, fun k H locs Ls ⟨h1, h2, h3, h4, h5⟩ => lv_isub C.1 C.2.1 hd ?_⟩
    obtain ⟨hy, h3⟩ := mk_st h3; obtain ⟨hx, h3⟩ := mk_st h3
    rw [← Int32.ofInt_sub, ← mj_I_w]
    exact k H locs Ls ⟨h1, h2, mk_sc (mj_w_in _) h3, h4, h5⟩
  · refine ⟨_, h, fun k H locs Ls ⟨h1, h2, h3, h4, h5⟩ => lv_imul C.1 C.2.1 hd ?_⟩
    obtain ⟨hy, h3⟩ := mk_st h3; obtain ⟨hx, h3⟩ := mk_st h3
    rw [← Int32.ofInt_mul, ← mj_I_w]
    exact k H locs Ls ⟨h1, h2, mk_sc (mj_w_in _) h3, h4, h5⟩
  · split at h
    · cases h
    · rename_i hz
      refine ⟨_, h, fun k H locs Ls ⟨h1, h2, h3, h4, h5⟩ => ?_⟩
      obtain ⟨hy, h3⟩ := mk_st h3; obtain ⟨hx, h3⟩ := mk_st h3
      refine lv_idiv C.1 C.2.1 hd (fun q => hz ((mj_I_inj hy mj_n0).mp q)) ?_
      rw [← mj_I_div hx hy]
      exact k H locs Ls ⟨h1, h2, mk_sc (mj_w_in _) h3, h4, h5⟩
  · split at h
    · cases h
    · rename_i hz
      refine ⟨_, h, fun k H locs Ls ⟨h1, h2, h3, h4, h5⟩ => ?_⟩
      obtain ⟨hy, h3⟩ := mk_st h3; obtain ⟨hx, h3⟩ := mk_st h3
      refine lv_irem C.1 C.2.1 hd (fun q => hz ((mj_I_inj hy mj_n0).mp q)) ?_
      rw [← mj_I_rem hx hy]
      exact k H locs Ls ⟨h1, h2, mk_sc (mj_tmod_in hx) h3, h4, h5⟩
  · split at h
    · rename_i hz
      refine ⟨_, h, fun k H locs Ls ⟨h1, h2, h3, h4, h5⟩ => lv_iand C.1 C.2.1 hd ?_⟩
      obtain ⟨hy, h3⟩ := mk_st h3; obtain ⟨hx, h3⟩ := mk_st h3
      rw [mj_I_nat hz.1, mj_I_nat hz.2, mj_I_and, ← mj_I_N]
      exact k H locs Ls ⟨h1, h2, mk_sc (mj_and_in hx) h3, h4, h5⟩
    · cases h
  · split at h
    · rename_i hz
      refine ⟨_, h, fun k H locs Ls ⟨h1, h2, h3, h4, h5⟩ => lv_ior C.1 C.2.1 hd ?_⟩
      obtain ⟨hy, h3⟩ := mk_st h3; obtain ⟨hx, h3⟩ := mk_st h3
      rw [mj_I_nat hz.1, mj_I_nat hz.2, mj_I_or, ← mj_I_N]
      exact k H locs Ls ⟨h1, h2, mk_sc (mj_or_in hx hy) h3, h4, h5⟩
    · cases h
  · split at h
    · rename_i hz
      refine ⟨_, h, fun k H locs Ls ⟨h1, h2, h3, h4, h5⟩ => lv_ixor C.1 C.2.1 hd ?_⟩
      obtain ⟨hy, h3⟩ := mk_st h3; obtain ⟨hx, h3⟩ := mk_st h3
      rw [hz, mj_I_not]
      exact k H locs Ls ⟨h1, h2, mk_sc (show mj_n32 (-x - 1) from by have h9 : mj_n32 x := hx; unfold mj_n32 at h9 ⊢; omega) h3, h4, h5⟩
    · cases h
  · split at h
    · rename_i hz
      refine ⟨_, h, fun k H locs Ls ⟨h1, h2, h3, h4, h5⟩ => lv_ishl C.1 C.2.1 hd ?_⟩
      obtain ⟨hy, h3⟩ := mk_st h3; obtain ⟨hx, h3⟩ := mk_st h3
      rw [← mj_I_shl hx hz]
      exact k H locs Ls ⟨h1, h2, mk_sc (mj_w_in _) h3, h4, h5⟩
    · cases h
  · split at h
    · rename_i hz
      refine ⟨_, h, fun k H locs Ls ⟨h1, h2, h3, h4, h5⟩ => lv_ishr C.1 C.2.1 hd ?_⟩
      obtain ⟨hy, h3⟩ := mk_st h3; obtain ⟨hx, h3⟩ := mk_st h3
      rw [← (mj_I_shr hx hz).1]
      exact k H locs Ls ⟨h1, h2, mk_sc (mj_I_shr hx hz).2 h3, h4, h5⟩
    · cases h
  · cases h
theorem ms_bl (C : mk_Cx p R s m args meth c XS lo hi cA ad D tys A own bytes n ret d) {ins : Instr} {x y : Int} {κ : Int → mj_R} {r : Option mj_V × mj_M} (hd : decode bytes pc = .ok (ins, 1)) (h : mj_bl ins x y κ = some r) : ∃ z, κ z = some r ∧ (mk_W p l e R s m args below meth c Q lo hi cA ad D A n (pc + 1) ls (.inr (.inl z) :: st) μ → mk_W p l e R s m args below meth c Q lo hi cA ad D A n pc ls (.inr (.inl y) :: .inr (.inl x) :: st) μ) := by
  unfold mj_bl at h
  split at h
  · refine ⟨_, h, fun k H locs Ls ⟨h1, h2, h3, h4, h5⟩ => lv_ladd C.1 C.2.1 hd ?_⟩
    obtain ⟨hy, h3⟩ := mk_st h3; obtain ⟨hx, h3⟩ := mk_st h3
    rw [← Int64.ofInt_add, ← mj_L_x]
    exact k H locs Ls ⟨h1, h2, mk_sc (mj_x_in _) h3, h4, h5⟩
  · refine ⟨_, h, fun k H locs Ls ⟨h1, h2, h3, h4, h5⟩ => lv_lsub C.1 C.2.1 hd ?_⟩
    obtain ⟨hy, h3⟩ := mk_st h3; obtain ⟨hx, h3⟩ := mk_st h3
    rw [← Int64.ofInt_sub, ← mj_L_x]
    exact k H locs Ls ⟨h1, h2, mk_sc (mj_x_in _) h3, h4, h5⟩
  · refine ⟨_, h, fun k H locs Ls ⟨h1, h2, h3, h4, h5⟩ => lv_lmul C.1 C.2.1 hd ?_⟩
    obtain ⟨hy, h3⟩ := mk_st h3; obtain ⟨hx, h3⟩ := mk_st h3
    rw [← Int64.ofInt_mul, ← mj_L_x]
    exact k H locs Ls ⟨h1, h2, mk_sc (mj_x_in _) h3, h4, h5⟩
  · split at h
    · cases h
    · rename_i hz
      refine ⟨_, h, fun k H locs Ls ⟨h1, h2, h3, h4, h5⟩ => ?_⟩
      obtain ⟨hy, h3⟩ := mk_st h3; obtain ⟨hx, h3⟩ := mk_st h3
      refine lv_ldiv C.1 C.2.1 hd (fun q => hz ((mj_L_inj hy (mj_n32_64 mj_n0)).mp q)) ?_
      rw [← mj_L_div hx hy]
      exact k H locs Ls ⟨h1, h2, mk_sc (mj_x_in _) h3, h4, h5⟩
  · split at h
    · cases h
    · rename_i hz
      refine ⟨_, h, fun k H locs Ls ⟨h1, h2, h3, h4, h5⟩ => ?_⟩
      obtain ⟨hy, h3⟩ := mk_st h3; obtain ⟨hx, h3⟩ := mk_st h3
      refine lv_lrem C.1 C.2.1 hd (fun q => hz ((mj_L_inj hy (mj_n32_64 mj_n0)).mp q)) ?_
      rw [← mj_L_rem hx hy]
      exact k H locs Ls ⟨h1, h2, mk_sc (mj_tmod_in64 hx) h3, h4, h5⟩
  · cases h
theorem ms_ineg (C : mk_Cx p R s m args meth c XS lo hi cA ad D tys A own bytes n ret d) {x : Int} (hd : decode bytes pc = .ok (.ineg, 1)) (k : mk_W p l e R s m args below meth c Q lo hi cA ad D A n (pc + 1) ls (.inl (mj_w (-x)) :: st) μ) : mk_W p l e R s m args below meth c Q lo hi cA ad D A n pc ls (.inl x :: st) μ := by
  intro H locs Ls ⟨h1, h2, h3, h4, h5⟩
  obtain ⟨hx, h3⟩ := mk_st h3
  refine lv_ineg C.1 C.2.1 hd ?_
  rw [← Int32.ofInt_neg, ← mj_I_w]
  exact k H locs Ls ⟨h1, h2, mk_sc (mj_w_in _) h3, h4, h5⟩
theorem ms_i2l (C : mk_Cx p R s m args meth c XS lo hi cA ad D tys A own bytes n ret d) {x : Int} (hd : decode bytes pc = .ok (.i2l, 1)) (k : mk_W p l e R s m args below meth c Q lo hi cA ad D A n (pc + 1) ls (.inr (.inl x) :: st) μ) : mk_W p l e R s m args below meth c Q lo hi cA ad D A n pc ls (.inl x :: st) μ := by
  intro H locs Ls ⟨h1, h2, h3, h4, h5⟩
  obtain ⟨hx, h3⟩ := mk_st h3
  refine lv_i2l C.1 C.2.1 hd (mj_i2l hx) ?_
  exact k H locs Ls ⟨h1, h2, mk_sc (mj_n32_64 hx) h3, h4, h5⟩
theorem ms_l2i (C : mk_Cx p R s m args meth c XS lo hi cA ad D tys A own bytes n ret d) {x : Int} (hd : decode bytes pc = .ok (.l2i, 1)) (k : mk_W p l e R s m args below meth c Q lo hi cA ad D A n (pc + 1) ls (.inl (mj_w x) :: st) μ) : mk_W p l e R s m args below meth c Q lo hi cA ad D A n pc ls (.inr (.inl x) :: st) μ := by
  intro H locs Ls ⟨h1, h2, h3, h4, h5⟩
  obtain ⟨hx, h3⟩ := mk_st h3
  refine lv_l2i C.1 C.2.1 hd mj_l2i ?_
  exact k H locs Ls ⟨h1, h2, mk_sc (mj_w_in _) h3, h4, h5⟩
theorem ms_i2b (C : mk_Cx p R s m args meth c XS lo hi cA ad D tys A own bytes n ret d) {x : Int} (hd : decode bytes pc = .ok (.i2b, 1)) (k : mk_W p l e R s m args below meth c Q lo hi cA ad D A n (pc + 1) ls (.inl ((x + 128) % 256 - 128) :: st) μ) : mk_W p l e R s m args below meth c Q lo hi cA ad D A n pc ls (.inl x :: st) μ := by
  intro H locs Ls ⟨h1, h2, h3, h4, h5⟩
  obtain ⟨hx, h3⟩ := mk_st h3
  refine lv_i2b C.1 C.2.1 hd mj_i2b.1 ?_
  exact k H locs Ls ⟨h1, h2, mk_sc mj_i2b.2 h3, h4, h5⟩
theorem ms_i2s (C : mk_Cx p R s m args meth c XS lo hi cA ad D tys A own bytes n ret d) {x : Int} (hd : decode bytes pc = .ok (.i2s, 1)) (k : mk_W p l e R s m args below meth c Q lo hi cA ad D A n (pc + 1) ls (.inl ((x + 32768) % 65536 - 32768) :: st) μ) : mk_W p l e R s m args below meth c Q lo hi cA ad D A n pc ls (.inl x :: st) μ := by
  intro H locs Ls ⟨h1, h2, h3, h4, h5⟩
  obtain ⟨hx, h3⟩ := mk_st h3
  refine lv_i2s C.1 C.2.1 hd mj_i2s.1 ?_
  exact k H locs Ls ⟨h1, h2, mk_sc mj_i2s.2 h3, h4, h5⟩
theorem ms_dup_i (C : mk_Cx p R s m args meth c XS lo hi cA ad D tys A own bytes n ret d) {x : Int} (hd : decode bytes pc = .ok (.dup, 1)) (k : mk_W p l e R s m args below meth c Q lo hi cA ad D A n (pc + 1) ls (.inl x :: .inl x :: st) μ) : mk_W p l e R s m args below meth c Q lo hi cA ad D A n pc ls (.inl x :: st) μ := by
  intro H locs Ls ⟨h1, h2, h3, h4, h5⟩
  obtain ⟨hx, h3⟩ := mk_st h3
  refine lv_dup C.1 C.2.1 hd rfl ?_
  exact k H locs Ls ⟨h1, h2, mk_sc hx (mk_sc hx h3), h4, h5⟩
theorem ms_dup_r (C : mk_Cx p R s m args meth c XS lo hi cA ad D tys A own bytes n ret d) {q : Nat × Nat} (hd : decode bytes pc = .ok (.dup, 1)) (k : mk_W p l e R s m args below meth c Q lo hi cA ad D A n (pc + 1) ls (.inr (.inr q) :: .inr (.inr q) :: st) μ) : mk_W p l e R s m args below meth c Q lo hi cA ad D A n pc ls (.inr (.inr q) :: st) μ := by
  intro H locs Ls ⟨h1, h2, h3, h4, h5⟩
  obtain ⟨hx, h3⟩ := mk_st h3
  refine lv_dup C.1 C.2.1 hd rfl ?_
  exact k H locs Ls ⟨h1, h2, mk_sc hx (mk_sc hx h3), h4, h5⟩
theorem ms_dup2 (C : mk_Cx p R s m args meth c XS lo hi cA ad D tys A own bytes n ret d) {j : Int} {q : Nat × Nat} (hd : decode bytes pc = .ok (.dup2, 1)) (k : mk_W p l e R s m args below meth c Q lo hi cA ad D A n (pc + 1) ls (.inl j :: .inr (.inr q) :: .inl j :: .inr (.inr q) :: st) μ) : mk_W p l e R s m args below meth c Q lo hi cA ad D A n pc ls (.inl j :: .inr (.inr q) :: st) μ := by
  intro H locs Ls ⟨h1, h2, h3, h4, h5⟩
  obtain ⟨hx, h3⟩ := mk_st h3
  obtain ⟨hy, h3⟩ := mk_st h3
  refine lv_dup2_11 C.1 C.2.1 hd rfl rfl ?_
  exact k H locs Ls ⟨h1, h2, mk_sc hx (mk_sc hy (mk_sc hx (mk_sc hy h3))), h4, h5⟩
theorem ms_pop (C : mk_Cx p R s m args meth c XS lo hi cA ad D tys A own bytes n ret d) {x : Int} (hd : decode bytes pc = .ok (.pop, 1)) (k : mk_W p l e R s m args below meth c Q lo hi cA ad D A n (pc + 1) ls st μ) : mk_W p l e R s m args below meth c Q lo hi cA ad D A n pc ls (.inl x :: st) μ := by
  intro H locs Ls ⟨h1, h2, h3, h4, h5⟩
  obtain ⟨hx, h3⟩ := mk_st h3
  refine lv_pop C.1 C.2.1 hd rfl ?_
  exact k H locs Ls ⟨h1, h2, h3, h4, h5⟩
theorem ms_lcmp (C : mk_Cx p R s m args meth c XS lo hi cA ad D tys A own bytes n ret d) {x y : Int} (hd : decode bytes pc = .ok (.lcmp, 1)) (k : mk_W p l e R s m args below meth c Q lo hi cA ad D A n (pc + 1) ls (.inl (if x < y then -1 else if x = y then 0 else 1) :: st) μ) : mk_W p l e R s m args below meth c Q lo hi cA ad D A n pc ls (.inr (.inl y) :: .inr (.inl x) :: st) μ := by
  intro H locs Ls ⟨h1, h2, h3, h4, h5⟩
  obtain ⟨hy, h3⟩ := mk_st h3
  obtain ⟨hx, h3⟩ := mk_st h3
  refine W.lcmp C.1 C.2.1 hd ?_
  rw [mj_lcmp hx hy]
  refine k H locs Ls ⟨h1, h2, mk_sc ?_ h3, h4, h5⟩
  show mj_n32 _
  unfold mj_n32
  split
  · omega
  · split <;> omega
end MS
