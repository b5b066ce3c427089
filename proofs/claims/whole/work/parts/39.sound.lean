/-! methods -/
theorem mk_pl_args {ad : mk_AD} : ∀ (as : List mj_V) (j i : Nat) (v : mj_V), mj_nth (mj_pl as) i = some (some v) → (j + i, mk_ev ad v) ∈ lv_args j (as.map (mk_ev ad)) ∧ v ∈ as := by
  intro as
  induction as with
  | nil => intro j i v h; cases i <;> cases h
  | cons a r ih =>
    intro j i v h
    have one : (∀ x, a ≠ .inr (.inl x)) → mj_pl (a :: r) = some a :: mj_pl r := by
      intro hn
      match a, hn with
      | .inl x, _ => rfl
      | .inr (.inl x), hn => exact absurd rfl (hn x)
      | .inr (.inr q), _ => rfl
    by_cases hl : ∃ x, a = .inr (.inl x)
    · obtain ⟨x, rfl⟩ := hl
      have e : lv_args j ((Sum.inr (Sum.inl x) :: r).map (mk_ev ad)) = (j, mk_ev ad (.inr (.inl x))) :: lv_args (j + 2) (r.map (mk_ev ad)) := rfl
      rw [e]
      match i, h with
      | 0, h => cases h; exact ⟨List.mem_cons_self, List.mem_cons_self⟩
      | 1, h => cases h
      | i + 2, h =>
        obtain ⟨h1, h2⟩ := ih (j + 2) i v h
        rw [show j + 2 + i = j + (i + 2) by omega] at h1
        exact ⟨List.mem_cons_of_mem _ h1, List.mem_cons_of_mem _ h2⟩
    · have hn : ∀ x, a ≠ .inr (.inl x) := fun x q => hl ⟨x, q⟩
      rw [one hn] at h
      have hc : ¬ (mk_ev ad a).category = 2 := by rw [mk_cat1 hn]; omega
      have e : lv_args j ((a :: r).map (mk_ev ad)) = (j, mk_ev ad a) :: lv_args (j + 1) (r.map (mk_ev ad)) := by
        show (j, mk_ev ad a) :: lv_args (if (mk_ev ad a).category = 2 then j + 2 else j + 1) _ = _
        rw [if_neg hc]
      rw [e]
      cases i with
      | zero => cases h; exact ⟨List.mem_cons_self, List.mem_cons_self⟩
      | succ i =>
        obtain ⟨h1, h2⟩ := ih (j + 1) i v h
        rw [show j + 1 + i = j + (i + 1) by omega] at h1
        exact ⟨List.mem_cons_of_mem _ h1, List.mem_cons_of_mem _ h2⟩
theorem mk_pad_nth : ∀ (n : Nat) (l : mj_L) (i : Nat) (v : mj_V), mj_nth (mj_pad n l) i = some (some v) → mj_nth l i = some (some v)
  | 0, l, i, v, h => by cases i <;> cases h
  | n + 1, [], i, v, h => by
    cases i with
    | zero => cases h
    | succ i =>
      have := mk_pad_nth n [] i v h
      cases i <;> cases this
  | n + 1, a :: l, i, v, h => by
    cases i with
    | zero => exact h
    | succ i => exact mk_pad_nth n l i v h
theorem mk_pl_len {ad : mk_AD} : ∀ (as : List mj_V), (lg_sl (as.map (mk_ev ad))).length = (mj_pl as).length
  | [] => rfl
  | .inl x :: r => by
    have := mk_pl_len (ad := ad) r
    show (lg_sl (mk_ev ad (.inl x) :: r.map (mk_ev ad))).length = (mj_pl r).length + 1
    rw [← this]
    unfold lg_sl
    rw [List.flatMap_cons, List.length_append]
    show 1 + _ = _
    omega
  | .inr (.inl x) :: r => by
    have := mk_pl_len (ad := ad) r
    show (lg_sl (mk_ev ad (.inr (.inl x)) :: r.map (mk_ev ad))).length = (mj_pl r).length + 1 + 1
    rw [← this]
    unfold lg_sl
    rw [List.flatMap_cons, List.length_append]
    show 2 + _ = _
    omega
  | .inr (.inr q) :: r => by
    have := mk_pl_len (ad := ad) r
    show (lg_sl (mk_ev ad (.inr (.inr q)) :: r.map (mk_ev ad))).length = (mj_pl r).length + 1
    rw [← this]
    unfold lg_sl
    rw [List.flatMap_cons, List.length_append]
    show 1 + _ = _
    omega
/-- all runs of n steps are true to the machine -/
def mk_Sn (l : Launch) (XS : (Nat → Prop) → State → Prop) (lo hi : Nat) (cA : Nat → ClassId) (ad : mk_AD) (D : va_G) (tys : List (ClassId × FieldType)) (n : Nat) : Prop :=
  ∀ (d y l' : Nat) (ls : mj_L) (st : List mj_V) (μ : mj_M) (r : Option mj_V × mj_M), mj_run mk_LY mk_TB mk_CS mk_PG n d y l' ls st μ = some r →
  ∀ (p : Program) (e : Env) (R : Room) (s : State) (m : MethodId) (args : Array Value) (below : List Frame) (meth : Method) (c : Code),
    mk_Cx p R s m args meth c XS lo hi cA ad D tys (mk_A lo hi ad s.heap.size) (mk_mi y).2.2.2.1 (mk_mi y).2.1 (mk_mi y).2.2.2.2.1 (mk_mi y).2.2.1 d →
    mk_W p l e R s m args below meth c (MQ below (mk_Post lo hi cA ad D tys r s.heap.size) args s 0 0 (mk_A lo hi ad s.heap.size)) lo hi cA ad D (mk_A lo hi ad s.heap.size) (mk_mi y).2.2.2.2.1 (mk_pc y l') ls st μ
theorem mk_met {l : Launch} {XS : (Nat → Prop) → State → Prop} {lo hi : Nat} {cA : Nat → ClassId} {ad : mk_AD} {D : va_G} {tys : List (ClassId × FieldType)} {n : Nat} (hW : (mk_cells lo hi).Nodup ∧ mk_closed lo hi = true ∧ mk_TY lo hi cA tys) (hS : mk_Sn l XS lo hi cA ad D tys n)
    {d y : Nat} {as : List mj_V} {μ : mj_M} {r : Option mj_V × mj_M} (hfit : mj_fit mk_LY mk_PG y as = true) (h : mj_run mk_LY mk_TB mk_CS mk_PG n d y 0 (mj_ent mk_PG y as) [] μ = some r) : mk_Mt l XS lo hi cA ad D tys d y as μ r := by
  refine ⟨hfit, fun hv hm sz => ?_⟩
  have hfit' := hfit
  unfold mj_fit at hfit'
  cases hq : mj_nth mk_PG y with
  | none => rw [hq] at hfit'; cases hfit'
  | some q =>
    obtain ⟨n', rc, bs⟩ := q
    have hy := mk_y_lt hq
    have hok := mk_okall hy
    unfold mk_ckm at hok
    rw [hq] at hok hfit'
    simp only [Bool.and_eq_true, Nat.beq_eq, decide_eq_true_eq] at hok
    obtain ⟨⟨⟨⟨k1, k2⟩, k3⟩, k4⟩, k5⟩ := hok
    dsimp only at hfit'
    have hlen : (mj_pl as).length ≤ n' := by
      split at hfit'
      · rename_i hb; exact Nat.ble_eq.mp hb
      · cases hfit'
    obtain ⟨c1, c2, c3, c4, c5, c6⟩ := mk_mi_c hy
    have hent : mj_ent mk_PG y as = mj_pad n' (mj_pl as) := by unfold mj_ent; rw [hq]
    rw [hent] at h
    refine Met.ofW (cc := (mk_mi y).2.1) (maxL := (mk_mi y).2.2.2.2.1) (ret := (mk_mi y).2.2.1) c5 rfl ?_
    intro p e s m args below meth c s₁ B hml hpre
    obtain ⟨rfl, hsz, hP, hK, hD, hE⟩ := hpre
    subst hsz
    rw [lg_entry_eq]
    have hle : (lg_sl (as.map (mk_ev ad))).length ≤ (mk_mi y).2.2.2.2.1 := by rw [mk_pl_len, ← k2]; exact hlen
    have hent2 := lv_entry (as.map (mk_ev ad)) hle
    have hC : mk_Cx p (headSpec (mk_wy y) (mk_rm d)).room s m (as.map (mk_ev ad)).toArray meth c XS lo hi cA ad D tys (mk_A lo hi ad s.heap.size) (mk_mi y).2.2.2.1 (mk_mi y).2.1 (mk_mi y).2.2.2.2.1 (mk_mi y).2.2.1 d := by
      refine ⟨B.exec, B.bytes, B.returns, hml, ?_, fun w hw => atoms_spec (ws := mk_wy y) B.pre w (List.mem_cons_of_mem _ hw), B.notSynchronized, hK, hW.2.2, hE, fun q hq => Or.inr hq, hW.1, hW.2.1, Nat.le_refl _, Nat.le_refl _⟩
      rw [← c3]
      exact findClass_of_methodNamed B.named
    have hw := hS d y 0 _ [] μ r h p e _ s m _ below meth c hC s.heap [] _ ⟨⟨⟨hent2.1, hent2.2.1, fun q hq => by cases hq⟩, fun i v hi => hent2.2.2 (i, mk_ev ad v) (by have := (mk_pl_args (ad := ad) as 0 i v (mk_pad_nth _ _ _ _ hi)).1; rw [Nat.zero_add] at this; exact this)⟩, fun i v hi => hv v (mk_pl_args (ad := ad) as 0 i v (mk_pad_nth _ _ _ _ hi)).2, fun v hv => (by cases hv), hm, hP, hD, va_S.rf⟩
    rw [k4] at hw
    exact hw
theorem mk_sn {l : Launch} {XS : (Nat → Prop) → State → Prop} {lo hi : Nat} {cA : Nat → ClassId} {ad : mk_AD} {D : va_G} {tys : List (ClassId × FieldType)} (hX : mk_XSc XS) (hStr : mk_Str XS lo hi cA ad D tys) (hW : (mk_cells lo hi).Nodup ∧ mk_closed lo hi = true ∧ mk_TY lo hi cA tys) : ∀ n, mk_Sn l XS lo hi cA ad D tys n := by
  intro n
  induction n with
  | zero => intro d y l' ls st μ r h; cases h
  | succ n ih =>
    intro d y l' ls st μ r h p e R s m args below meth c hC
    rw [mj_run] at h
    cases hq : mj_nth mk_PG y with
    | none =>
      have : mj_bk mk_PG y l' = ([], []) := by unfold mj_bk; rw [hq]
      rw [this] at h
      cases h
    | some q =>
      obtain ⟨n', rc, bs⟩ := q
      have hy := mk_y_lt hq
      have hok := mk_okall hy
      unfold mk_ckm at hok
      rw [hq] at hok
      simp only [Bool.and_eq_true, Nat.beq_eq, decide_eq_true_eq] at hok
      obtain ⟨⟨⟨⟨k1, k2⟩, k3⟩, k4⟩, k5⟩ := hok
      cases hb : mj_nth bs l' with
      | none =>
        have : mj_bk mk_PG y l' = ([], []) := by unfold mj_bk; rw [hq]; dsimp only; rw [hb]
        rw [this] at h
        cases h
      | some q =>
        have hbk : mj_bk mk_PG y l' = q := by unfold mj_bk; rw [hq]; dsimp only; rw [hb]
        have hck : mk_ckb y (mk_mi y).2.2.2.1 n' (mk_mi y).2.2.1 (mk_mi y).2.1 q.2 = true := by
          rw [mj_nth_eq] at hb
          exact List.all_eq_true.mp k1 _ (List.mem_of_getElem? hb)
        rw [k2] at hck
        have hw := mk_blk_sound (l := l) (e := e) (below := below) hC hX hStr (y := y) rfl (K := fun l' => mj_run mk_LY mk_TB mk_CS mk_PG n d y l') (fun l2 ls st μ hr => ih d y l2 ls st μ r hr p e R s m args below meth c hC)
          (Cc := fun y' as μ' => mj_in (fun d' => mj_gd (mj_fit mk_LY mk_PG y' as) (mj_run mk_LY mk_TB mk_CS mk_PG n d' y' 0 (mj_ent mk_PG y' as) [] μ')) d) (fun y' as μ' r' hr => by
            cases d with
            | zero => cases hr
            | succ d =>
              refine ⟨d, rfl, ?_⟩
              change mj_gd _ _ = _ at hr
              cases hf : mj_fit mk_LY mk_PG y' as with
              | false => rw [hf] at hr; cases hr
              | true =>
                rw [hf] at hr
                exact mk_met hW ih hf hr) _ _ _ _ (by rw [hbk]; exact hck) h
        intro H locs Ls hR
        obtain ⟨h1, h2, h3⟩ := hR
        exact hw H locs Ls ⟨mk_lok_keep _ h1, fun i v hi => h2 i v (mk_keep_nth _ _ _ _ hi), h3⟩
/-- what a call comes to in the small machine, the machine does -/
theorem mk_sound {l : Launch} {XS : (Nat → Prop) → State → Prop} {lo hi : Nat} {cA : Nat → ClassId} {ad : mk_AD} {D : va_G} {tys : List (ClassId × FieldType)} (hX : mk_XSc XS) (hStr : mk_Str XS lo hi cA ad D tys) (hW : (mk_cells lo hi).Nodup ∧ mk_closed lo hi = true ∧ mk_TY lo hi cA tys)
    {d y : Nat} {as : List mj_V} {μ : mj_M} {r : Option mj_V × mj_M} (h : kc (d + 1) y as μ = some r) : mk_Mt l XS lo hi cA ad D tys d y as μ r := by
  change mj_gd _ _ = _ at h
  cases hf : mj_fit mk_LY mk_PG y as with
  | false => rw [hf] at h; cases h
  | true =>
    rw [hf] at h
    obtain ⟨n, hn⟩ := mj_den_iff.mp h
    exact mk_met hW (mk_sn hX hStr hW n) hf hn
