/-! runs with fuel, and what they come to -/
/-- a method: its locals, 0 or the number of its class + 1 (of an object), its blocks -/
abbrev mj_P : Type := List (Nat × Nat × List (List Bool × List mj_I))
def mj_in (f : Nat → mj_R) : Nat → mj_R
  | 0 => none
  | d + 1 => f d
def mj_bk (PG : mj_P) (y l : Nat) : List Bool × List mj_I := match mj_nth PG y with
  | some (_, _, bs) => match mj_nth bs l with
    | some q => q
    | none => ([], [])
  | none => ([], [])
def mj_ent (PG : mj_P) (y : Nat) (as : List mj_V) : mj_L := match mj_nth PG y with
  | some (n, _, _) => mj_pad n (mj_pl as)
  | none => []
def mj_rcv (LY : List mj_S) (rc : Nat) (as : List mj_V) : Bool := match rc with
  | 0 => true
  | k + 1 => match as with
    | .inr (.inr (s, _)) :: _ => match mj_srt LY s with
      | (0, ci, _, _) => Nat.beq ci k
      | _ => false
    | _ => false
def mj_fit (LY : List mj_S) (PG : mj_P) (y : Nat) (as : List mj_V) : Bool := match mj_nth PG y with
  | some (n, rc, _) => match Nat.ble (mj_pl as).length n with
    | true => mj_rcv LY rc as
    | false => false
  | none => false
def mj_gd (b : Bool) (r : mj_R) : mj_R := match b with
  | true => r
  | false => none
section MJ
variable (LY : List mj_S) (TB : List (List Int)) (CS : List Int) (PG : mj_P)
def mj_run : Nat → Nat → Nat → Nat → mj_L → List mj_V → mj_M → mj_R
  | 0, _, _, _, _, _, _ => none
  | n + 1, d, y, l, ls, st, μ => mj_blk LY TB CS (fun l' => mj_run n d y l') (fun y' as μ' => mj_in (fun d' => mj_gd (mj_fit LY PG y' as) (mj_run n d' y' 0 (mj_ent PG y' as) [] μ')) d) (mj_bk PG y l).2 (mj_keep (mj_bk PG y l).1 ls) st μ
end MJ
section MK
variable {LY : List mj_S} {TB : List (List Int)} {CS : List Int} {PG : mj_P}
theorem mj_pop_pu {n : Nat} {st acc : List mj_V} {κ : List mj_V → List mj_V → mj_R} {x : Option mj_V × mj_M} (h : mj_pop n st acc κ = some x) : ∃ as r, κ as r = some x ∧ (∀ κ', mj_pop n st acc κ' = κ' as r) ∧ ∃ q, st = q ++ r ∧ q.length = n ∧ as = q.reverse ++ acc := by
  induction n generalizing st acc with
  | zero => exact ⟨acc, st, h, fun _ => rfl, [], rfl, rfl, rfl⟩
  | succ n ih =>
    cases st with
    | nil => cases h
    | cons v st =>
      obtain ⟨as, r, h1, h2, q, h3, h4, h5⟩ := ih (st := st) (acc := v :: acc) h
      exact ⟨as, r, h1, h2, v :: q, by rw [h3]; rfl, by rw [List.length_cons, h4], by rw [h5]; simp⟩
theorem mj_rV_pu {r : mj_R} {κ : mj_M → mj_R} {x : Option mj_V × mj_M} (h : mj_rV r κ = some x) : ∃ μ, r = some (none, μ) ∧ κ μ = some x := by
  unfold mj_rV at h
  split at h
  · exact ⟨_, rfl, h⟩
  · cases h
theorem mj_rI_pu {r : mj_R} {κ : Int → mj_M → mj_R} {x : Option mj_V × mj_M} (h : mj_rI r κ = some x) : ∃ v μ, r = some (some (.inl v), μ) ∧ κ v μ = some x := by
  unfold mj_rI at h
  split at h
  · exact ⟨_, _, rfl, h⟩
  · cases h
theorem mj_rL_pu {r : mj_R} {κ : Int → mj_M → mj_R} {x : Option mj_V × mj_M} (h : mj_rL r κ = some x) : ∃ v μ, r = some (some (.inr (.inl v)), μ) ∧ κ v μ = some x := by
  unfold mj_rL at h
  split at h
  · exact ⟨_, _, rfl, h⟩
  · cases h
theorem mj_cl_pu {C : Nat → List mj_V → mj_M → mj_R} {a b k : Nat} {st : List mj_V} {μ : mj_M} {κ : List mj_V → mj_M → mj_R} {x : Option mj_V × mj_M} (h : mj_cl LY TB C a b k st μ κ = some x) :
    ∃ st' μ', κ st' μ' = some x ∧ ((∀ C' κ', mj_cl LY TB C' a b k st μ κ' = κ' st' μ') ∨ ∃ as r, C a as μ = some r ∧ ∀ C' κ', C' a as μ = some r → mj_cl LY TB C' a b k st μ κ' = κ' st' μ') := by
  unfold mj_cl at h ⊢
  split at h
  · obtain ⟨as, r, h1, h2, -⟩ := mj_pop_pu h
    split at h1
    · rename_i e
      obtain ⟨m, h3, h4⟩ := mj_rV_pu h1
      refine ⟨_, _, h4, Or.inr ⟨as, _, h3, fun C' κ' hc => ?_⟩⟩
      rw [h2]
      simp only [e, hc]
      rfl
    · cases h1
  · obtain ⟨as, r, h1, h2, -⟩ := mj_pop_pu h
    split at h1
    · rename_i e
      obtain ⟨v, m, h3, h4⟩ := mj_rI_pu h1
      refine ⟨_, _, h4, Or.inr ⟨as, _, h3, fun C' κ' hc => ?_⟩⟩
      rw [h2]
      simp only [e, hc]
      rfl
    · cases h1
  · obtain ⟨as, r, h1, h2, -⟩ := mj_pop_pu h
    split at h1
    · rename_i e
      obtain ⟨v, m, h3, h4⟩ := mj_rL_pu h1
      refine ⟨_, _, h4, Or.inr ⟨as, _, h3, fun C' κ' hc => ?_⟩⟩
      rw [h2]
      simp only [e, hc]
      rfl
    · cases h1
  · obtain ⟨v, w, r, h1, h2⟩ := mj_p2_pu h
    split at h1
    · rename_i e
      refine ⟨_, _, h1, Or.inl fun C' κ' => ?_⟩
      rw [h2]
      simp only [e]
    · cases h1
  · obtain ⟨r, m, h1, h2⟩ := mj_acp_pu h
    split at h1
    · rename_i e
      refine ⟨_, _, h1, Or.inl fun C' κ' => ?_⟩
      rw [h2]
      simp only [e]
    · cases h1
  · obtain ⟨j, s, i, r, h1, h2⟩ := mj_a2_pu h
    split at h1
    · rename_i e1
      split at h1
      · rename_i e2
        obtain ⟨v, h3, h4, -⟩ := mj_tb4_pu h1
        refine ⟨_, _, h3, Or.inl fun C' κ' => ?_⟩
        rw [h2]
        simp only [e1, e2]
        exact h4 _
      · cases h1
    · cases h1
  · cases h
theorem mj_ifc_mono {c : Jvm.ClassFile.Cond} {v w : Int} {A B A' B' : mj_R} {x : Option mj_V × mj_M} (hA : A = some x → A' = some x) (hB : B = some x → B' = some x) (h : mj_ifc c v w A B = some x) : mj_ifc c v w A' B' = some x := by
  cases c <;> (unfold mj_ifc at h ⊢; dsimp only at h ⊢; split at h <;> rename_i q <;> first | (rw [if_pos q]; first | exact hA h | exact hB h) | (rw [if_neg q]; first | exact hA h | exact hB h))
theorem mj_swk_mono {K K' : Nat → mj_R} {x : Option mj_V × mj_M} (hK : ∀ l, K l = some x → K' l = some x) {d : Nat} {v : Int} (sw : List (Int × Nat)) (h : mj_swk K d v sw = some x) : mj_swk K' d v sw = some x := by
  induction sw with
  | nil => exact hK _ h
  | cons q r ih =>
    unfold mj_swk at h ⊢
    split at h
    · rename_i e
      rw [if_pos e]
      exact hK _ h
    · rename_i e
      rw [if_neg e]
      exact ih h
theorem mj_blk_mono {K K' : Nat → mj_L → List mj_V → mj_M → mj_R} {C C' : Nat → List mj_V → mj_M → mj_R} (hK : ∀ l ls st μ x, K l ls st μ = some x → K' l ls st μ = some x) (hC : ∀ y as μ x, C y as μ = some x → C' y as μ = some x) :
    ∀ (is : List mj_I) (ls : mj_L) (st : List mj_V) (μ : mj_M) (x : Option mj_V × mj_M), mj_blk LY TB CS K C is ls st μ = some x → mj_blk LY TB CS K' C' is ls st μ = some x := by
  intro is
  induction is with
  | nil => intro ls st μ x h; cases h
  | cons q is ih =>
    obtain ⟨pc, ins, a, b, k, sw⟩ := q
    intro ls st μ x h
    unfold mj_blk at h ⊢
    split at h
    · exact hK _ _ _ _ _ h
    · exact hK _ _ _ _ _ h
    · obtain ⟨v, r, h1, h2⟩ := mj_p1_pu h
      exact (h2 _).trans (mj_ifc_mono (hK _ _ _ _ _) (ih _ _ _ _) h1)
    · obtain ⟨v, w, r, h1, h2⟩ := mj_p2_pu h
      exact (h2 _).trans (mj_ifc_mono (hK _ _ _ _ _) (ih _ _ _ _) h1)
    · obtain ⟨v, r, h1, h2⟩ := mj_p1_pu h
      exact (h2 _).trans (mj_swk_mono (fun l => hK l _ _ _ _) sw h1)
    · obtain ⟨v, r, h1, h2⟩ := mj_p1_pu h
      exact (h2 _).trans (mj_swk_mono (fun l => hK l _ _ _ _) sw h1)
    · exact h
    · exact h
    · exact h
    · obtain ⟨st', μ', h1, h2⟩ := mj_cl_pu h
      rcases h2 with h2 | ⟨as, r, h3, h2⟩
      · exact (h2 _ _).trans (ih _ _ _ _ h1)
      · exact (h2 _ _ (hC _ _ _ _ h3)).trans (ih _ _ _ _ h1)
    · obtain ⟨st', μ', h1, h2⟩ := mj_cl_pu h
      rcases h2 with h2 | ⟨as, r, h3, h2⟩
      · exact (h2 _ _).trans (ih _ _ _ _ h1)
      · exact (h2 _ _ (hC _ _ _ _ h3)).trans (ih _ _ _ _ h1)
    · obtain ⟨ls', st', μ', h1, h2⟩ := mj_ps_pu h
      exact (h2 _).trans (ih _ _ _ _ h1)
theorem mj_gd_mono {b : Bool} {r r' : mj_R} {x : Option mj_V × mj_M} (h : r = some x → r' = some x) (q : mj_gd b r = some x) : mj_gd b r' = some x := by
  cases b with
  | true => exact h q
  | false => cases q
theorem mj_in_mono {f g : Nat → mj_R} {x : Option mj_V × mj_M} (h : ∀ d, f d = some x → g d = some x) : ∀ d, mj_in f d = some x → mj_in g d = some x
  | 0, q => by cases q
  | d + 1, q => h d q
theorem mj_run_mono : ∀ (n d y l : Nat) (ls : mj_L) (st : List mj_V) (μ : mj_M) (x : Option mj_V × mj_M), mj_run LY TB CS PG n d y l ls st μ = some x → mj_run LY TB CS PG (n + 1) d y l ls st μ = some x := by
  intro n
  induction n with
  | zero => intro d y l ls st μ x h; cases h
  | succ n ih =>
    intro d y l ls st μ x h
    rw [mj_run] at h ⊢
    exact mj_blk_mono (fun l' ls st μ x h => ih _ _ _ _ _ _ _ h) (fun y as μ x h => mj_in_mono (fun d h => mj_gd_mono (ih _ _ _ _ _ _ _) h) _ h) _ _ _ _ _ h
theorem mj_run_le {n m d y l : Nat} {ls : mj_L} {st : List mj_V} {μ : mj_M} {x : Option mj_V × mj_M} (hm : n ≤ m) (h : mj_run LY TB CS PG n d y l ls st μ = some x) : mj_run LY TB CS PG m d y l ls st μ = some x := by
  induction m with
  | zero =>
    have : n = 0 := by omega
    subst this
    exact h
  | succ m ih =>
    by_cases q : n = m + 1
    · subst q; exact h
    · exact mj_run_mono _ _ _ _ _ _ _ _ (ih (by omega))
theorem mj_den_ex (LY : List mj_S) (TB : List (List Int)) (CS : List Int) (PG : mj_P) (d y l : Nat) (ls : mj_L) (st : List mj_V) (μ : mj_M) : ∃ r : mj_R, ∀ x, r = some x ↔ ∃ n, mj_run LY TB CS PG n d y l ls st μ = some x := by
  by_cases h : ∃ n x, mj_run LY TB CS PG n d y l ls st μ = some x
  · obtain ⟨n, x, h⟩ := h
    refine ⟨some x, fun z => ⟨fun e => ⟨n, by rw [h, ← e]⟩, fun ⟨m, hm⟩ => ?_⟩⟩
    have h1 := mj_run_le (Nat.le_max_left n m) h
    have h2 := mj_run_le (Nat.le_max_right n m) hm
    rw [h1] at h2
    exact h2
  · refine ⟨none, fun z => ⟨fun e => (by cases e), fun ⟨m, hm⟩ => absurd ⟨m, z, hm⟩ h⟩⟩
noncomputable def mj_den (LY : List mj_S) (TB : List (List Int)) (CS : List Int) (PG : mj_P) (d y l : Nat) (ls : mj_L) (st : List mj_V) (μ : mj_M) : mj_R := Classical.choose (mj_den_ex LY TB CS PG d y l ls st μ)
noncomputable def mj_call (LY : List mj_S) (TB : List (List Int)) (CS : List Int) (PG : mj_P) (d y : Nat) (as : List mj_V) (μ : mj_M) : mj_R := mj_in (fun d' => mj_gd (mj_fit LY PG y as) (mj_den LY TB CS PG d' y 0 (mj_ent PG y as) [] μ)) d
theorem mj_den_iff {d y l : Nat} {ls : mj_L} {st : List mj_V} {μ : mj_M} {x : Option mj_V × mj_M} : mj_den LY TB CS PG d y l ls st μ = some x ↔ ∃ n, mj_run LY TB CS PG n d y l ls st μ = some x := Classical.choose_spec (mj_den_ex LY TB CS PG d y l ls st μ) x
theorem mj_ifc_ct {c : Jvm.ClassFile.Cond} {v w : Int} {A B : mj_R} {A' B' : Nat → mj_R} {x : Option mj_V × mj_M} (hA : A = some x → ∃ n, A' n = some x) (hB : B = some x → ∃ n, B' n = some x) (h : mj_ifc c v w A B = some x) : ∃ n, mj_ifc c v w (A' n) (B' n) = some x := by
  have key : (A = some x ∧ ∀ A B : mj_R, mj_ifc c v w A B = A) ∨ (B = some x ∧ ∀ A B : mj_R, mj_ifc c v w A B = B) := by
    cases c <;> (unfold mj_ifc at h ⊢; dsimp only at h ⊢; split at h <;> rename_i q <;> simp [q, h])
  rcases key with ⟨h1, h2⟩ | ⟨h1, h2⟩
  · obtain ⟨n, hn⟩ := hA h1
    exact ⟨n, (h2 _ _).trans hn⟩
  · obtain ⟨n, hn⟩ := hB h1
    exact ⟨n, (h2 _ _).trans hn⟩
theorem mj_swk_ct {K : Nat → mj_R} {K' : Nat → Nat → mj_R} {x : Option mj_V × mj_M} (hK : ∀ l, K l = some x → ∃ n, K' n l = some x) {d : Nat} {v : Int} (sw : List (Int × Nat)) (h : mj_swk K d v sw = some x) : ∃ n, mj_swk (K' n) d v sw = some x := by
  induction sw with
  | nil => exact hK _ h
  | cons q r ih =>
    unfold mj_swk at h ⊢
    split at h
    · rename_i e
      obtain ⟨n, hn⟩ := hK _ h
      exact ⟨n, by rw [if_pos e]; exact hn⟩
    · rename_i e
      obtain ⟨n, hn⟩ := ih h
      exact ⟨n, by rw [if_neg e]; exact hn⟩
theorem mj_blk_ct {K : Nat → mj_L → List mj_V → mj_M → mj_R} {C : Nat → List mj_V → mj_M → mj_R} {K' : Nat → Nat → mj_L → List mj_V → mj_M → mj_R} {C' : Nat → Nat → List mj_V → mj_M → mj_R}
    (hK : ∀ l ls st μ x, K l ls st μ = some x → ∃ n, K' n l ls st μ = some x) (hC : ∀ y as μ x, C y as μ = some x → ∃ n, C' n y as μ = some x)
    (mK : ∀ n m l ls st μ x, n ≤ m → K' n l ls st μ = some x → K' m l ls st μ = some x) (mC : ∀ n m y as μ x, n ≤ m → C' n y as μ = some x → C' m y as μ = some x) :
    ∀ (is : List mj_I) (ls : mj_L) (st : List mj_V) (μ : mj_M) (x : Option mj_V × mj_M), mj_blk LY TB CS K C is ls st μ = some x → ∃ n, mj_blk LY TB CS (K' n) (C' n) is ls st μ = some x := by
  intro is
  induction is with
  | nil => intro ls st μ x h; cases h
  | cons q is ih =>
    obtain ⟨pc, ins, a, b, k, sw⟩ := q
    intro ls st μ x h
    unfold mj_blk at h ⊢
    split at h
    · exact hK _ _ _ _ _ h
    · exact hK _ _ _ _ _ h
    · obtain ⟨v, r, h1, h2⟩ := mj_p1_pu h
      obtain ⟨n, hn⟩ := mj_ifc_ct (A' := fun n => K' n a ls r μ) (B' := fun n => mj_blk LY TB CS (K' n) (C' n) is ls r μ) (hK _ _ _ _ _) (ih _ _ _ _) h1
      exact ⟨n, (h2 _).trans hn⟩
    · obtain ⟨v, w, r, h1, h2⟩ := mj_p2_pu h
      obtain ⟨n, hn⟩ := mj_ifc_ct (A' := fun n => K' n a ls r μ) (B' := fun n => mj_blk LY TB CS (K' n) (C' n) is ls r μ) (hK _ _ _ _ _) (ih _ _ _ _) h1
      exact ⟨n, (h2 _).trans hn⟩
    · obtain ⟨v, r, h1, h2⟩ := mj_p1_pu h
      obtain ⟨n, hn⟩ := mj_swk_ct (K' := fun n l => K' n l ls r μ) (fun l => hK l _ _ _ _) sw h1
      exact ⟨n, (h2 _).trans hn⟩
    · obtain ⟨v, r, h1, h2⟩ := mj_p1_pu h
      obtain ⟨n, hn⟩ := mj_swk_ct (K' := fun n l => K' n l ls r μ) (fun l => hK l _ _ _ _) sw h1
      exact ⟨n, (h2 _).trans hn⟩
    · exact ⟨0, h⟩
    · exact ⟨0, h⟩
    · exact ⟨0, h⟩
    · obtain ⟨st', μ', h1, h2⟩ := mj_cl_pu h
      obtain ⟨n, hn⟩ := ih _ _ _ _ h1
      rcases h2 with h2 | ⟨as, r, h3, h2⟩
      · exact ⟨n, (h2 _ _).trans hn⟩
      · obtain ⟨m, hm⟩ := hC _ _ _ _ h3
        exact ⟨max n m, (h2 _ _ (mC _ _ _ _ _ _ (Nat.le_max_right n m) hm)).trans (mj_blk_mono (fun l ls st μ x => mK _ _ _ _ _ _ _ (Nat.le_max_left n m)) (fun y as μ x => mC _ _ _ _ _ _ (Nat.le_max_left n m)) _ _ _ _ _ hn)⟩
    · obtain ⟨st', μ', h1, h2⟩ := mj_cl_pu h
      obtain ⟨n, hn⟩ := ih _ _ _ _ h1
      rcases h2 with h2 | ⟨as, r, h3, h2⟩
      · exact ⟨n, (h2 _ _).trans hn⟩
      · obtain ⟨m, hm⟩ := hC _ _ _ _ h3
        exact ⟨max n m, (h2 _ _ (mC _ _ _ _ _ _ (Nat.le_max_right n m) hm)).trans (mj_blk_mono (fun l ls st μ x => mK _ _ _ _ _ _ _ (Nat.le_max_left n m)) (fun y as μ x => mC _ _ _ _ _ _ (Nat.le_max_left n m)) _ _ _ _ _ hn)⟩
    · obtain ⟨ls', st', μ', h1, h2⟩ := mj_ps_pu h
      obtain ⟨n, hn⟩ := ih _ _ _ _ h1
      exact ⟨n, (h2 _).trans hn⟩
/-- THE EQUATION: what a block comes to -/
theorem mj_fix {d y l : Nat} {ls : mj_L} {st : List mj_V} {μ : mj_M} : mj_den LY TB CS PG d y l ls st μ = mj_blk LY TB CS (fun l' => mj_den LY TB CS PG d y l') (mj_call LY TB CS PG d) (mj_bk PG y l).2 (mj_keep (mj_bk PG y l).1 ls) st μ := by
  apply Option.ext
  intro x
  constructor
  · intro h
    obtain ⟨n, hn⟩ := mj_den_iff.mp h
    cases n with
    | zero => cases hn
    | succ n =>
      rw [mj_run] at hn
      refine mj_blk_mono (fun l' ls st μ x h => mj_den_iff.mpr ⟨n, h⟩) (fun y as μ x h => ?_) _ _ _ _ _ hn
      exact mj_in_mono (fun d h => mj_gd_mono (fun h => mj_den_iff.mpr ⟨n, h⟩) h) _ h
  · intro h
    obtain ⟨n, hn⟩ := mj_blk_ct (K' := fun n l' => mj_run LY TB CS PG n d y l') (C' := fun n y' as μ' => mj_in (fun d' => mj_gd (mj_fit LY PG y' as) (mj_run LY TB CS PG n d' y' 0 (mj_ent PG y' as) [] μ')) d)
      (fun l ls st μ x h => mj_den_iff.mp h) (fun y as μ x h => by
        unfold mj_call at h
        cases d with
        | zero => cases h
        | succ d =>
          change mj_gd _ _ = _ at h
          cases q : mj_fit LY PG y as with
          | false => rw [q] at h; cases h
          | true =>
            rw [q] at h
            obtain ⟨n, hn⟩ := mj_den_iff.mp h
            exact ⟨n, hn⟩)
      (fun n m l ls st μ x hm h => mj_run_le hm h) (fun n m y as μ x hm h => mj_in_mono (fun d h => mj_gd_mono (mj_run_le hm) h) _ h) _ _ _ _ _ h
    exact mj_den_iff.mpr ⟨n + 1, by rw [mj_run]; exact hn⟩
theorem mj_call_eq {d y : Nat} {as : List mj_V} {μ : mj_M} : mj_call LY TB CS PG (d + 1) y as μ = mj_gd (mj_fit LY PG y as) (mj_den LY TB CS PG d y 0 (mj_ent PG y as) [] μ) := rfl
end MK
