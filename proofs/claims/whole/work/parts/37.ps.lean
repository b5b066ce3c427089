/-! the steps that neither jump nor call -/
theorem mk_ldi_sp {ls : mj_L} {a : Nat} {κ : Int → mj_R} {x : Option mj_V × mj_M} (h : mj_ldi ls a κ = some x) : ∃ v, κ v = some x ∧ mj_nth ls a = some (some (.inl v)) := by
  unfold mj_ldi at h
  split at h
  · rename_i q; exact ⟨_, h, q⟩
  · cases h
theorem mk_ldl_sp {ls : mj_L} {a : Nat} {κ : Int → mj_R} {x : Option mj_V × mj_M} (h : mj_ldl ls a κ = some x) : ∃ v, κ v = some x ∧ mj_nth ls a = some (some (.inr (.inl v))) := by
  unfold mj_ldl at h
  split at h
  · rename_i q; exact ⟨_, h, q⟩
  · cases h
theorem mk_lda_sp {ls : mj_L} {a : Nat} {κ : Nat → Nat → mj_R} {x : Option mj_V × mj_M} (h : mj_lda ls a κ = some x) : ∃ s i, κ s i = some x ∧ mj_nth ls a = some (some (.inr (.inr (s, i)))) := by
  unfold mj_lda at h
  split at h
  · rename_i q; exact ⟨_, _, h, q⟩
  · cases h
theorem mk_p1_sp {st : List mj_V} {κ : Int → List mj_V → mj_R} {x : Option mj_V × mj_M} (h : mj_p1 st κ = some x) : ∃ v r, κ v r = some x ∧ st = .inl v :: r := by
  unfold mj_p1 at h
  split at h
  · exact ⟨_, _, h, rfl⟩
  · cases h
theorem mk_p2_sp {st : List mj_V} {κ : Int → Int → List mj_V → mj_R} {x : Option mj_V × mj_M} (h : mj_p2 st κ = some x) : ∃ v w r, κ v w r = some x ∧ st = .inl w :: .inl v :: r := by
  unfold mj_p2 at h
  split at h
  · exact ⟨_, _, _, h, rfl⟩
  · cases h
theorem mk_q1_sp {st : List mj_V} {κ : Int → List mj_V → mj_R} {x : Option mj_V × mj_M} (h : mj_q1 st κ = some x) : ∃ v r, κ v r = some x ∧ st = .inr (.inl v) :: r := by
  unfold mj_q1 at h
  split at h
  · exact ⟨_, _, h, rfl⟩
  · cases h
theorem mk_q2_sp {st : List mj_V} {κ : Int → Int → List mj_V → mj_R} {x : Option mj_V × mj_M} (h : mj_q2 st κ = some x) : ∃ v w r, κ v w r = some x ∧ st = .inr (.inl w) :: .inr (.inl v) :: r := by
  unfold mj_q2 at h
  split at h
  · exact ⟨_, _, _, h, rfl⟩
  · cases h
theorem mk_a1_sp {st : List mj_V} {κ : Nat → Nat → List mj_V → mj_R} {x : Option mj_V × mj_M} (h : mj_a1 st κ = some x) : ∃ s i r, κ s i r = some x ∧ st = .inr (.inr (s, i)) :: r := by
  unfold mj_a1 at h
  split at h
  · exact ⟨_, _, _, h, rfl⟩
  · cases h
theorem mk_a2_sp {st : List mj_V} {κ : Int → Nat → Nat → List mj_V → mj_R} {x : Option mj_V × mj_M} (h : mj_a2 st κ = some x) : ∃ j s i r, κ j s i r = some x ∧ st = .inl j :: .inr (.inr (s, i)) :: r := by
  unfold mj_a2 at h
  split at h
  · exact ⟨_, _, _, _, h, rfl⟩
  · cases h
def mk_k32 (q : Nat × Nat × Nat × Nat) : Bool := match q.2.2.2 with
  | 0 => match mj_nth mk_CS q.2.2.1 with
    | some x => decide (-2147483648 ≤ x ∧ x < 2147483648)
    | none => true
  | _ => true
theorem mk_k32_ok : mk_KL.all mk_k32 = true := by decide +kernel
theorem mk_cs32 {own idx a : Nat} {x : Int} (h : (own, idx, a, 0) ∈ mk_KL) (hx : mj_nth mk_CS a = some x) : mj_n32 x := by
  have := List.all_eq_true.mp mk_k32_ok _ h
  unfold mk_k32 at this
  dsimp only at this
  rw [hx] at this
  simp only [decide_eq_true_eq] at this
  exact this
theorem mk_kw0 {own idx a : Nat} {x : Int} (h : (own, idx, a, 0) ∈ mk_KL) (hx : mj_nth mk_CS a = some x) : Cond.constant (mk_cn own) idx (Int32.ofInt x) ∈ mk_tb := by
  have g := mk_KLw _ h
  unfold mk_kw at g
  dsimp only at g
  rw [hx] at g
  exact g
theorem mk_kw2 {own idx a : Nat} {x : Int} (h : (own, idx, a, 2) ∈ mk_KL) (hx : mj_nth mk_CS a = some x) : Cond.constantLong (mk_cn own) idx (Int64.ofInt x) ∈ mk_tb := by
  have g := mk_KLw _ h
  unfold mk_kw at g
  dsimp only at g
  rw [hx] at g
  exact g
theorem mk_k64_ok : mk_CS.all (fun x => decide (-9223372036854775808 ≤ x ∧ x < 9223372036854775808)) = true := by decide +kernel
theorem mk_cs64 {a : Nat} {x : Int} (hx : mj_nth mk_CS a = some x) : mj_n64 x := by
  rw [mj_nth_eq] at hx
  have := List.all_eq_true.mp mk_k64_ok _ (List.mem_of_getElem? hx)
  simp only [decide_eq_true_eq] at this
  exact this
/-! blocks -/
section MB
variable {p : Program} {l : Launch} {e : Env} {R : Room} {s : State} {m : MethodId} {args : Array Value} {below : List Frame} {meth : Method} {c : Code} {Q : State → Prop} {XS : (Nat → Prop) → State → Prop} {lo hi : Nat} {cA : Nat → ClassId} {ad : mk_AD} {D : va_G} {tys : List (ClassId × FieldType)} {A : Nat → Prop} {own : Nat} {bytes : ByteArray} {n : Nat} {ret : Option FieldType} {d : Nat}
variable {pc : Nat} {ls : mj_L} {st : List mj_V} {μ : mj_M}
/-- the text constant: ldc, charAt (proved apart) -/
def mk_Str (XS : (Nat → Prop) → State → Prop) (lo hi : Nat) (cA : Nat → ClassId) (ad : mk_AD) (D : va_G) (tys : List (ClassId × FieldType)) : Prop :=
  ∀ (p : Program) (l : Launch) (e : Env) (R : Room) (s : State) (m : MethodId) (args : Array Value) (below : List Frame) (meth : Method) (c : Code) (Q : State → Prop) (A : Nat → Prop) (bytes : ByteArray) (n : Nat) (ret : Option FieldType) (d : Nat) (pc : Nat) (ls : mj_L) (st : List mj_V) (μ : mj_M), (∀ q, A q → mk_A lo hi ad s.heap.size q) →
    mk_Cx p R s m args meth c XS lo hi cA ad D tys A 5 bytes n ret d →
    (decode bytes pc = .ok (.ldc 96, 2) → mk_W p l e R s m args below meth c Q lo hi cA ad D A n (pc + 2) ls (.inr (.inr (63, 0)) :: st) μ → mk_W p l e R s m args below meth c Q lo hi cA ad D A n pc ls st μ) ∧
    (∀ (j x : Int) (t : List Int), mj_nth mk_TB 0 = some t → 0 ≤ j → mj_nth t j.toNat = some x → mj_cat st ≤ 8 → decode bytes pc = .ok (.invokevirtual 98, 3) → mk_W p l e R s m args below meth c Q lo hi cA ad D A n (pc + 3) ls (.inl x :: st) μ → mk_W p l e R s m args below meth c Q lo hi cA ad D A n pc ls (.inl j :: .inr (.inr (63, 0)) :: st) μ)
theorem ms_ps (C : mk_Cx p R s m args meth c XS lo hi cA ad D tys A own bytes n ret d) {y : Nat} (hS : mk_Str XS lo hi cA ad D tys) (hAA : ∀ q, A q → mk_A lo hi ad s.heap.size q) {ins : Instr} {a b k nx : Nat} {sw : List (Int × Nat)} {κ : mj_L → List mj_V → mj_M → mj_R} {r : Option mj_V × mj_M} (hck : mk_ck y own n ret bytes (pc, ins, a, b, k, sw) nx = true) (h : mj_ps mk_LY mk_TB mk_CS ins a b k ls st μ κ = some r) : ∃ ls' st' μ', κ ls' st' μ' = some r ∧ (mk_W p l e R s m args below meth c Q lo hi cA ad D A n nx ls' st' μ' → mk_W p l e R s m args below meth c Q lo hi cA ad D A n pc ls st μ) := by
  unfold mj_ps at h
  split at h
  · simp only [mk_ck, Bool.and_eq_true, Nat.beq_eq, decide_eq_true_eq, Nat.blt_eq] at hck
    exact ⟨_, _, _, h, fun w => ms_iconst C (mk_dl_sp hck.1.1) hck.2 (by rw [← hck.1.2]; exact w)⟩
  · simp only [mk_ck, Bool.and_eq_true, Nat.beq_eq, decide_eq_true_eq, Nat.blt_eq] at hck
    exact ⟨_, _, _, h, fun w => ms_bipush C (mk_dl_sp hck.1.1) hck.2 (by rw [← hck.1.2]; exact w)⟩
  · simp only [mk_ck, Bool.and_eq_true, Nat.beq_eq, decide_eq_true_eq, Nat.blt_eq] at hck
    exact ⟨_, _, _, h, fun w => ms_sipush C (mk_dl_sp hck.1.1) hck.2 (by rw [← hck.1.2]; exact w)⟩
  · simp only [mk_ck, Bool.and_eq_true, Nat.beq_eq, decide_eq_true_eq, Nat.blt_eq] at hck
    exact ⟨_, _, _, h, fun w => ms_lconst C (mk_dl_sp hck.1) (by rw [← hck.2]; exact w)⟩
  · simp only [mk_ck, Bool.and_eq_true, Nat.beq_eq, decide_eq_true_eq, Nat.blt_eq] at hck
    obtain ⟨x, h1, hx⟩ := mk_ldi_sp h
    obtain ⟨⟨g1, g2⟩, rfl⟩ := hck
    exact ⟨_, _, _, h1, fun w => ms_iload C (mk_dl_sp g1) hx (by rw [← g2]; exact w)⟩
  · simp only [mk_ck, Bool.and_eq_true, Nat.beq_eq, decide_eq_true_eq, Nat.blt_eq] at hck
    obtain ⟨x, h1, hx⟩ := mk_ldi_sp h
    exact ⟨_, _, _, h1, fun w => ms_iload_n C (mk_dl_sp hck.1.1) hck.2 hx (by rw [← hck.1.2]; exact w)⟩
  · simp only [mk_ck, Bool.and_eq_true, Nat.beq_eq, decide_eq_true_eq, Nat.blt_eq] at hck
    obtain ⟨x, h1, hx⟩ := mk_ldl_sp h
    obtain ⟨⟨g1, g2⟩, rfl⟩ := hck
    exact ⟨_, _, _, h1, fun w => ms_lload C (mk_dl_sp g1) hx (by rw [← g2]; exact w)⟩
  · simp only [mk_ck, Bool.and_eq_true, Nat.beq_eq, decide_eq_true_eq, Nat.blt_eq] at hck
    obtain ⟨x, h1, hx⟩ := mk_ldl_sp h
    exact ⟨_, _, _, h1, fun w => ms_lload_n C (mk_dl_sp hck.1.1) hck.2 hx (by rw [← hck.1.2]; exact w)⟩
  · simp only [mk_ck, Bool.and_eq_true, Nat.beq_eq, decide_eq_true_eq, Nat.blt_eq] at hck
    obtain ⟨s', i, h1, hx⟩ := mk_lda_sp h
    obtain ⟨⟨g1, g2⟩, rfl⟩ := hck
    exact ⟨_, _, _, h1, fun w => ms_aload C (mk_dl_sp g1) hx (by rw [← g2]; exact w)⟩
  · simp only [mk_ck, Bool.and_eq_true, Nat.beq_eq, decide_eq_true_eq, Nat.blt_eq] at hck
    obtain ⟨s', i, h1, hx⟩ := mk_lda_sp h
    exact ⟨_, _, _, h1, fun w => ms_aload_n C (mk_dl_sp hck.1.1) hck.2 hx (by rw [← hck.1.2]; exact w)⟩
  · simp only [mk_ck, Bool.and_eq_true, Nat.beq_eq, decide_eq_true_eq, Nat.blt_eq] at hck
    obtain ⟨x, q, h1, rfl⟩ := mk_p1_sp h
    obtain ⟨h2, h3⟩ := mk_sto_sp h1
    obtain ⟨⟨⟨g1, g2⟩, rfl⟩, g3⟩ := hck
    exact ⟨_, _, _, h2, fun w => ms_istore C (mk_dl_sp g1) g3 h3 (by rw [← g2]; exact w)⟩
  · simp only [mk_ck, Bool.and_eq_true, Nat.beq_eq, decide_eq_true_eq, Nat.blt_eq] at hck
    obtain ⟨x, q, h1, rfl⟩ := mk_p1_sp h
    obtain ⟨h2, h3⟩ := mk_sto_sp h1
    exact ⟨_, _, _, h2, fun w => ms_istore_n C (mk_dl_sp hck.1.1.1) hck.1.2 hck.2 h3 (by rw [← hck.1.1.2]; exact w)⟩
  · simp only [mk_ck, Bool.and_eq_true, Nat.beq_eq, decide_eq_true_eq, Nat.blt_eq] at hck
    obtain ⟨x, q, h1, rfl⟩ := mk_q1_sp h
    obtain ⟨h2, h3⟩ := mk_sto_sp h1
    obtain ⟨⟨⟨g1, g2⟩, rfl⟩, g3⟩ := hck
    exact ⟨_, _, _, h2, fun w => ms_lstore C (mk_dl_sp g1) g3 h3 (by rw [← g2]; exact w)⟩
  · simp only [mk_ck, Bool.and_eq_true, Nat.beq_eq, decide_eq_true_eq, Nat.blt_eq] at hck
    obtain ⟨x, q, h1, rfl⟩ := mk_q1_sp h
    obtain ⟨h2, h3⟩ := mk_sto_sp h1
    exact ⟨_, _, _, h2, fun w => ms_lstore_n C (mk_dl_sp hck.1.1.1) hck.1.2 hck.2 h3 (by rw [← hck.1.1.2]; exact w)⟩
  · simp only [mk_ck, Bool.and_eq_true, Nat.beq_eq, decide_eq_true_eq, Nat.blt_eq] at hck
    obtain ⟨s', i, q, h1, rfl⟩ := mk_a1_sp h
    obtain ⟨h2, h3⟩ := mk_sto_sp h1
    obtain ⟨⟨⟨g1, g2⟩, rfl⟩, g3⟩ := hck
    exact ⟨_, _, _, h2, fun w => ms_astore C (mk_dl_sp g1) g3 h3 (by rw [← g2]; exact w)⟩
  · simp only [mk_ck, Bool.and_eq_true, Nat.beq_eq, decide_eq_true_eq, Nat.blt_eq] at hck
    obtain ⟨s', i, q, h1, rfl⟩ := mk_a1_sp h
    obtain ⟨h2, h3⟩ := mk_sto_sp h1
    exact ⟨_, _, _, h2, fun w => ms_astore_n C (mk_dl_sp hck.1.1.1) hck.1.2 hck.2 h3 (by rw [← hck.1.1.2]; exact w)⟩
  · simp only [mk_ck, Bool.and_eq_true, Nat.beq_eq, decide_eq_true_eq, Nat.blt_eq] at hck
    obtain ⟨x, h1, hx⟩ := mk_ldi_sp h
    obtain ⟨h2, h3⟩ := mk_sto_sp h1
    obtain ⟨⟨⟨g1, g2⟩, rfl⟩, g3⟩ := hck
    exact ⟨_, _, _, h2, fun w => ms_iinc C (mk_dl_sp g1) hx g3 h3 (by rw [← g2]; exact w)⟩
  · simp only [mk_ck, Bool.and_eq_true, Nat.beq_eq, decide_eq_true_eq, Nat.blt_eq] at hck
    obtain ⟨x, z, q, h1, rfl⟩ := mk_p2_sp h
    obtain ⟨v, h2, h3⟩ := ms_bi (st := q) (μ := μ) (ls := ls) (pc := pc) (l := l) (e := e) (below := below) (Q := Q) C (mk_dl_sp hck.1) h1
    exact ⟨_, _, _, h2, fun w => h3 (by rw [← hck.2]; exact w)⟩
  · simp only [mk_ck, Bool.and_eq_true, Nat.beq_eq, decide_eq_true_eq, Nat.blt_eq] at hck
    obtain ⟨x, z, q, h1, rfl⟩ := mk_p2_sp h
    obtain ⟨v, h2, h3⟩ := ms_bi (st := q) (μ := μ) (ls := ls) (pc := pc) (l := l) (e := e) (below := below) (Q := Q) C (mk_dl_sp hck.1) h1
    exact ⟨_, _, _, h2, fun w => h3 (by rw [← hck.2]; exact w)⟩
  · simp only [mk_ck, Bool.and_eq_true, Nat.beq_eq, decide_eq_true_eq, Nat.blt_eq] at hck
    obtain ⟨x, z, q, h1, rfl⟩ := mk_p2_sp h
    obtain ⟨v, h2, h3⟩ := ms_bi (st := q) (μ := μ) (ls := ls) (pc := pc) (l := l) (e := e) (below := below) (Q := Q) C (mk_dl_sp hck.1) h1
    exact ⟨_, _, _, h2, fun w => h3 (by rw [← hck.2]; exact w)⟩
  · simp only [mk_ck, Bool.and_eq_true, Nat.beq_eq, decide_eq_true_eq, Nat.blt_eq] at hck
    obtain ⟨x, z, q, h1, rfl⟩ := mk_p2_sp h
    obtain ⟨v, h2, h3⟩ := ms_bi (st := q) (μ := μ) (ls := ls) (pc := pc) (l := l) (e := e) (below := below) (Q := Q) C (mk_dl_sp hck.1) h1
    exact ⟨_, _, _, h2, fun w => h3 (by rw [← hck.2]; exact w)⟩
  · simp only [mk_ck, Bool.and_eq_true, Nat.beq_eq, decide_eq_true_eq, Nat.blt_eq] at hck
    obtain ⟨x, z, q, h1, rfl⟩ := mk_p2_sp h
    obtain ⟨v, h2, h3⟩ := ms_bi (st := q) (μ := μ) (ls := ls) (pc := pc) (l := l) (e := e) (below := below) (Q := Q) C (mk_dl_sp hck.1) h1
    exact ⟨_, _, _, h2, fun w => h3 (by rw [← hck.2]; exact w)⟩
  · simp only [mk_ck, Bool.and_eq_true, Nat.beq_eq, decide_eq_true_eq, Nat.blt_eq] at hck
    obtain ⟨x, z, q, h1, rfl⟩ := mk_p2_sp h
    obtain ⟨v, h2, h3⟩ := ms_bi (st := q) (μ := μ) (ls := ls) (pc := pc) (l := l) (e := e) (below := below) (Q := Q) C (mk_dl_sp hck.1) h1
    exact ⟨_, _, _, h2, fun w => h3 (by rw [← hck.2]; exact w)⟩
  · simp only [mk_ck, Bool.and_eq_true, Nat.beq_eq, decide_eq_true_eq, Nat.blt_eq] at hck
    obtain ⟨x, z, q, h1, rfl⟩ := mk_p2_sp h
    obtain ⟨v, h2, h3⟩ := ms_bi (st := q) (μ := μ) (ls := ls) (pc := pc) (l := l) (e := e) (below := below) (Q := Q) C (mk_dl_sp hck.1) h1
    exact ⟨_, _, _, h2, fun w => h3 (by rw [← hck.2]; exact w)⟩
  · simp only [mk_ck, Bool.and_eq_true, Nat.beq_eq, decide_eq_true_eq, Nat.blt_eq] at hck
    obtain ⟨x, z, q, h1, rfl⟩ := mk_p2_sp h
    obtain ⟨v, h2, h3⟩ := ms_bi (st := q) (μ := μ) (ls := ls) (pc := pc) (l := l) (e := e) (below := below) (Q := Q) C (mk_dl_sp hck.1) h1
    exact ⟨_, _, _, h2, fun w => h3 (by rw [← hck.2]; exact w)⟩
  · simp only [mk_ck, Bool.and_eq_true, Nat.beq_eq, decide_eq_true_eq, Nat.blt_eq] at hck
    obtain ⟨x, z, q, h1, rfl⟩ := mk_p2_sp h
    obtain ⟨v, h2, h3⟩ := ms_bi (st := q) (μ := μ) (ls := ls) (pc := pc) (l := l) (e := e) (below := below) (Q := Q) C (mk_dl_sp hck.1) h1
    exact ⟨_, _, _, h2, fun w => h3 (by rw [← hck.2]; exact w)⟩
  · simp only [mk_ck, Bool.and_eq_true, Nat.beq_eq, decide_eq_true_eq, Nat.blt_eq] at hck
    obtain ⟨x, z, q, h1, rfl⟩ := mk_p2_sp h
    obtain ⟨v, h2, h3⟩ := ms_bi (st := q) (μ := μ) (ls := ls) (pc := pc) (l := l) (e := e) (below := below) (Q := Q) C (mk_dl_sp hck.1) h1
    exact ⟨_, _, _, h2, fun w => h3 (by rw [← hck.2]; exact w)⟩
  · simp only [mk_ck, Bool.and_eq_true, Nat.beq_eq, decide_eq_true_eq, Nat.blt_eq] at hck
    obtain ⟨x, z, q, h1, rfl⟩ := mk_q2_sp h
    obtain ⟨v, h2, h3⟩ := ms_bl (st := q) (μ := μ) (ls := ls) (pc := pc) (l := l) (e := e) (below := below) (Q := Q) C (mk_dl_sp hck.1) h1
    exact ⟨_, _, _, h2, fun w => h3 (by rw [← hck.2]; exact w)⟩
  · simp only [mk_ck, Bool.and_eq_true, Nat.beq_eq, decide_eq_true_eq, Nat.blt_eq] at hck
    obtain ⟨x, z, q, h1, rfl⟩ := mk_q2_sp h
    obtain ⟨v, h2, h3⟩ := ms_bl (st := q) (μ := μ) (ls := ls) (pc := pc) (l := l) (e := e) (below := below) (Q := Q) C (mk_dl_sp hck.1) h1
    exact ⟨_, _, _, h2, fun w => h3 (by rw [← hck.2]; exact w)⟩
  · simp only [mk_ck, Bool.and_eq_true, Nat.beq_eq, decide_eq_true_eq, Nat.blt_eq] at hck
    obtain ⟨x, z, q, h1, rfl⟩ := mk_q2_sp h
    obtain ⟨v, h2, h3⟩ := ms_bl (st := q) (μ := μ) (ls := ls) (pc := pc) (l := l) (e := e) (below := below) (Q := Q) C (mk_dl_sp hck.1) h1
    exact ⟨_, _, _, h2, fun w => h3 (by rw [← hck.2]; exact w)⟩
  · simp only [mk_ck, Bool.and_eq_true, Nat.beq_eq, decide_eq_true_eq, Nat.blt_eq] at hck
    obtain ⟨x, z, q, h1, rfl⟩ := mk_q2_sp h
    obtain ⟨v, h2, h3⟩ := ms_bl (st := q) (μ := μ) (ls := ls) (pc := pc) (l := l) (e := e) (below := below) (Q := Q) C (mk_dl_sp hck.1) h1
    exact ⟨_, _, _, h2, fun w => h3 (by rw [← hck.2]; exact w)⟩
  · simp only [mk_ck, Bool.and_eq_true, Nat.beq_eq, decide_eq_true_eq, Nat.blt_eq] at hck
    obtain ⟨x, z, q, h1, rfl⟩ := mk_q2_sp h
    obtain ⟨v, h2, h3⟩ := ms_bl (st := q) (μ := μ) (ls := ls) (pc := pc) (l := l) (e := e) (below := below) (Q := Q) C (mk_dl_sp hck.1) h1
    exact ⟨_, _, _, h2, fun w => h3 (by rw [← hck.2]; exact w)⟩
  · simp only [mk_ck, Bool.and_eq_true, Nat.beq_eq, decide_eq_true_eq, Nat.blt_eq] at hck
    obtain ⟨x, z, q, h1, rfl⟩ := mk_q2_sp h
    refine ⟨ls, .inl (if x < z then -1 else if x = z then 0 else 1) :: q, μ, ?_, fun w => ms_lcmp C (mk_dl_sp hck.1) (by rw [← hck.2]; exact w)⟩
    split at h1
    · rename_i g; rw [if_pos g]; exact h1
    · rename_i g
      rw [if_neg g]
      split at h1
      · rename_i g2; rw [if_pos g2]; exact h1
      · rename_i g2; rw [if_neg g2]; exact h1
  · simp only [mk_ck, Bool.and_eq_true, Nat.beq_eq, decide_eq_true_eq, Nat.blt_eq] at hck
    obtain ⟨x, q, h1, rfl⟩ := mk_p1_sp h
    exact ⟨_, _, _, h1, fun w => ms_ineg C (mk_dl_sp hck.1) (by rw [← hck.2]; exact w)⟩
  · simp only [mk_ck, Bool.and_eq_true, Nat.beq_eq, decide_eq_true_eq, Nat.blt_eq] at hck
    obtain ⟨x, q, h1, rfl⟩ := mk_p1_sp h
    exact ⟨_, _, _, h1, fun w => ms_i2l C (mk_dl_sp hck.1) (by rw [← hck.2]; exact w)⟩
  · simp only [mk_ck, Bool.and_eq_true, Nat.beq_eq, decide_eq_true_eq, Nat.blt_eq] at hck
    obtain ⟨x, q, h1, rfl⟩ := mk_q1_sp h
    exact ⟨_, _, _, h1, fun w => ms_l2i C (mk_dl_sp hck.1) (by rw [← hck.2]; exact w)⟩
  · simp only [mk_ck, Bool.and_eq_true, Nat.beq_eq, decide_eq_true_eq, Nat.blt_eq] at hck
    obtain ⟨x, q, h1, rfl⟩ := mk_p1_sp h
    exact ⟨_, _, _, h1, fun w => ms_i2b C (mk_dl_sp hck.1) (by rw [← hck.2]; exact w)⟩
  · simp only [mk_ck, Bool.and_eq_true, Nat.beq_eq, decide_eq_true_eq, Nat.blt_eq] at hck
    obtain ⟨x, q, h1, rfl⟩ := mk_p1_sp h
    exact ⟨_, _, _, h1, fun w => ms_i2s C (mk_dl_sp hck.1) (by rw [← hck.2]; exact w)⟩
  · simp only [mk_ck, Bool.and_eq_true, Nat.beq_eq, decide_eq_true_eq, Nat.blt_eq] at hck
    split at h
    · exact ⟨_, _, _, h, fun w => ms_dup_i C (mk_dl_sp hck.1) (by rw [← hck.2]; exact w)⟩
    · exact ⟨_, _, _, h, fun w => ms_dup_r C (mk_dl_sp hck.1) (by rw [← hck.2]; exact w)⟩
    · cases h
  · simp only [mk_ck, Bool.and_eq_true, Nat.beq_eq, decide_eq_true_eq, Nat.blt_eq] at hck
    obtain ⟨j, s', i, q, h1, rfl⟩ := mk_a2_sp h
    exact ⟨_, _, _, h1, fun w => ms_dup2 C (mk_dl_sp hck.1) (by rw [← hck.2]; exact w)⟩
  · simp only [mk_ck, Bool.and_eq_true, Nat.beq_eq, decide_eq_true_eq, Nat.blt_eq] at hck
    obtain ⟨x, q, h1, rfl⟩ := mk_p1_sp h
    exact ⟨_, _, _, h1, fun w => ms_pop C (mk_dl_sp hck.1) (by rw [← hck.2]; exact w)⟩
  · simp only [mk_ck, Bool.and_eq_true, Nat.beq_eq, decide_eq_true_eq, Nat.blt_eq] at hck
    split at h
    · split at h
      · rename_i x e1
        have g := mk_kw0 (List.contains_iff_mem.mp hck.2) e1
        exact ⟨_, _, _, h, fun w => ms_ldc C (mk_dl_sp hck.1.1) g (mk_cs32 (List.contains_iff_mem.mp hck.2) e1) (by rw [← hck.1.2]; exact w)⟩
      · cases h
    · simp only [Bool.and_eq_true, Nat.beq_eq] at hck
      obtain ⟨⟨g1, g2⟩, ⟨rfl, rfl⟩, rfl⟩ := hck
      exact ⟨_, _, _, h, fun w => ((hS p l e R s m args below meth c Q A bytes n ret d pc ls st μ hAA C).1 (mk_dl_sp g1)) (by rw [← g2]; exact w)⟩
  · simp only [mk_ck, Bool.and_eq_true, Nat.beq_eq, decide_eq_true_eq, Nat.blt_eq] at hck
    split at h
    · rename_i x e1
      have g := mk_kw0 (List.contains_iff_mem.mp hck.2) e1
      exact ⟨_, _, _, h, fun w => ms_ldcw C (mk_dl_sp hck.1.1) g (mk_cs32 (List.contains_iff_mem.mp hck.2) e1) (by rw [← hck.1.2]; exact w)⟩
    · cases h
  · simp only [mk_ck, Bool.and_eq_true, Nat.beq_eq, decide_eq_true_eq, Nat.blt_eq] at hck
    split at h
    · rename_i x e1
      have g := mk_kw2 (List.contains_iff_mem.mp hck.2) e1
      exact ⟨_, _, _, h, fun w => ms_ldc2 C (mk_dl_sp hck.1.1) g (mk_cs64 e1) (by rw [← hck.1.2]; exact w)⟩
    · cases h
  · simp only [mk_ck, Bool.and_eq_true, Nat.beq_eq, decide_eq_true_eq, Nat.blt_eq] at hck
    obtain ⟨⟨⟨⟨g1, g2⟩, g3⟩, rfl⟩, rfl⟩ := hck
    subst g3
    exact ⟨_, _, _, h, fun w => ms_getstatic C rfl (mk_dl_sp g1) mk_abv (by rw [← g2]; exact w)⟩
  · simp only [mk_ck, Bool.and_eq_true, Nat.beq_eq, decide_eq_true_eq, Nat.blt_eq] at hck
    obtain ⟨s', i, q, h1, rfl⟩ := mk_a1_sp h
    obtain ⟨v, h2, h3⟩ := ms_get (st := q) (μ := μ) (ls := ls) (pc := pc) (l := l) (e := e) (below := below) (Q := Q) C (mk_dl_sp hck.1.1) (List.contains_iff_mem.mp hck.2) h1
    exact ⟨_, _, _, h2, fun w => h3 (by rw [← hck.1.2]; exact w)⟩
  · simp only [mk_ck, Bool.and_eq_true, Nat.beq_eq, decide_eq_true_eq, Nat.blt_eq] at hck
    split at h
    · simp only [Bool.not_eq_true'] at hck
      obtain ⟨v, h2, h3⟩ := ms_put (st := _) (μ := μ) (ls := ls) (pc := pc) (l := l) (e := e) (below := below) (Q := Q) C (mk_dl_sp hck.1.1.1.1) (List.contains_iff_mem.mp hck.1.1.2) ⟨hck.1.2, hck.2⟩ h
      exact ⟨_, _, _, h2, fun w => h3 (by rw [← hck.1.1.1.2]; exact w)⟩
    · cases h
  · simp only [mk_ck, Bool.and_eq_true, Nat.beq_eq, decide_eq_true_eq, Nat.blt_eq] at hck
    obtain ⟨j, s', i, q, h1, rfl⟩ := mk_a2_sp h
    obtain ⟨v, h2, h3⟩ := ms_iald (st := q) (μ := μ) (ls := ls) (pc := pc) (l := l) (e := e) (below := below) (Q := Q) C (mk_dl_sp hck.1) h1
    exact ⟨_, _, _, h2, fun w => h3 (by rw [← hck.2]; exact w)⟩
  · simp only [mk_ck, Bool.and_eq_true, Nat.beq_eq, decide_eq_true_eq, Nat.blt_eq] at hck
    obtain ⟨j, s', i, q, h1, rfl⟩ := mk_a2_sp h
    obtain ⟨v, h2, h3⟩ := ms_lald (st := q) (μ := μ) (ls := ls) (pc := pc) (l := l) (e := e) (below := below) (Q := Q) C (mk_dl_sp hck.1) h1
    exact ⟨_, _, _, h2, fun w => h3 (by rw [← hck.2]; exact w)⟩
  · simp only [mk_ck, Bool.and_eq_true, Nat.beq_eq, decide_eq_true_eq, Nat.blt_eq] at hck
    obtain ⟨j, s', i, q, h1, rfl⟩ := mk_a2_sp h
    obtain ⟨t, o, h2, h3⟩ := ms_aald (st := q) (μ := μ) (ls := ls) (pc := pc) (l := l) (e := e) (below := below) (Q := Q) (i := i) C (mk_dl_sp hck.1) h1
    exact ⟨_, _, _, h2, fun w => h3 (by rw [← hck.2]; exact w)⟩
  · simp only [mk_ck, Bool.and_eq_true, Nat.beq_eq, decide_eq_true_eq, Nat.blt_eq] at hck
    split at h
    · obtain ⟨v, h2, h3⟩ := ms_iast (st := _) (μ := μ) (ls := ls) (pc := pc) (l := l) (e := e) (below := below) (Q := Q) C (mk_dl_sp hck.1) h
      exact ⟨_, _, _, h2, fun w => h3 (by rw [← hck.2]; exact w)⟩
    · cases h
  · simp only [mk_ck, Bool.and_eq_true, Nat.beq_eq, decide_eq_true_eq, Nat.blt_eq] at hck
    split at h
    · obtain ⟨v, h2, h3⟩ := ms_last (st := _) (μ := μ) (ls := ls) (pc := pc) (l := l) (e := e) (below := below) (Q := Q) C (mk_dl_sp hck.1) h
      exact ⟨_, _, _, h2, fun w => h3 (by rw [← hck.2]; exact w)⟩
    · cases h
  · cases h
end MB
