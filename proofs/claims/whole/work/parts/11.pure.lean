/-! what a step that neither jumps nor calls does: it goes on at one place, or nowhere -/
theorem mj_sto_pu {ls : mj_L} {a : Nat} {v : mj_V} {κ : mj_L → mj_R} {x : Option mj_V × mj_M} (h : mj_sto ls a v κ = some x) : ∃ l', κ l' = some x ∧ ∀ κ', mj_sto ls a v κ' = κ' l' := by
  cases a with
  | zero => exact ⟨_, h, fun _ => rfl⟩
  | succ j =>
    unfold mj_sto at h ⊢
    dsimp only at h ⊢
    split at h
    · cases h
    · rename_i hn
      refine ⟨_, h, fun κ' => ?_⟩
      first
        | rfl
        | (split
           · rename_i q
             exact absurd q (hn _)
           · rfl)
theorem mj_stl_pu {ls : mj_L} {a : Nat} {v : Int} {κ : mj_L → mj_R} {x : Option mj_V × mj_M} (h : mj_stl ls a v κ = some x) : ∃ l', κ l' = some x ∧ ∀ κ', mj_stl ls a v κ' = κ' l' := by
  obtain ⟨l', h1, h2⟩ := mj_sto_pu h
  exact ⟨_, h1, fun κ' => h2 _⟩
theorem mj_ldi_pu {ls : mj_L} {a : Nat} {κ : Int → mj_R} {x : Option mj_V × mj_M} (h : mj_ldi ls a κ = some x) : ∃ v, κ v = some x ∧ ∀ κ', mj_ldi ls a κ' = κ' v := by
  unfold mj_ldi at h ⊢
  split at h
  · rename_i q
    exact ⟨_, h, fun κ' => rfl⟩
  · cases h
theorem mj_ldl_pu {ls : mj_L} {a : Nat} {κ : Int → mj_R} {x : Option mj_V × mj_M} (h : mj_ldl ls a κ = some x) : ∃ v, κ v = some x ∧ ∀ κ', mj_ldl ls a κ' = κ' v := by
  unfold mj_ldl at h ⊢
  split at h
  · rename_i q
    exact ⟨_, h, fun κ' => rfl⟩
  · cases h
theorem mj_lda_pu {ls : mj_L} {a : Nat} {κ : Nat → Nat → mj_R} {x : Option mj_V × mj_M} (h : mj_lda ls a κ = some x) : ∃ s i, κ s i = some x ∧ ∀ κ', mj_lda ls a κ' = κ' s i := by
  unfold mj_lda at h ⊢
  split at h
  · rename_i q
    exact ⟨_, _, h, fun κ' => rfl⟩
  · cases h
theorem mj_p1_pu {st : List mj_V} {κ : Int → List mj_V → mj_R} {x : Option mj_V × mj_M} (h : mj_p1 st κ = some x) : ∃ v r, κ v r = some x ∧ ∀ κ', mj_p1 st κ' = κ' v r := by
  unfold mj_p1 at h ⊢
  split at h
  · exact ⟨_, _, h, fun _ => rfl⟩
  · cases h
theorem mj_p2_pu {st : List mj_V} {κ : Int → Int → List mj_V → mj_R} {x : Option mj_V × mj_M} (h : mj_p2 st κ = some x) : ∃ v w r, κ v w r = some x ∧ ∀ κ', mj_p2 st κ' = κ' v w r := by
  unfold mj_p2 at h ⊢
  split at h
  · exact ⟨_, _, _, h, fun _ => rfl⟩
  · cases h
theorem mj_q1_pu {st : List mj_V} {κ : Int → List mj_V → mj_R} {x : Option mj_V × mj_M} (h : mj_q1 st κ = some x) : ∃ v r, κ v r = some x ∧ ∀ κ', mj_q1 st κ' = κ' v r := by
  unfold mj_q1 at h ⊢
  split at h
  · exact ⟨_, _, h, fun _ => rfl⟩
  · cases h
theorem mj_q2_pu {st : List mj_V} {κ : Int → Int → List mj_V → mj_R} {x : Option mj_V × mj_M} (h : mj_q2 st κ = some x) : ∃ v w r, κ v w r = some x ∧ ∀ κ', mj_q2 st κ' = κ' v w r := by
  unfold mj_q2 at h ⊢
  split at h
  · exact ⟨_, _, _, h, fun _ => rfl⟩
  · cases h
theorem mj_a1_pu {st : List mj_V} {κ : Nat → Nat → List mj_V → mj_R} {x : Option mj_V × mj_M} (h : mj_a1 st κ = some x) : ∃ s i r, κ s i r = some x ∧ ∀ κ', mj_a1 st κ' = κ' s i r := by
  unfold mj_a1 at h ⊢
  split at h
  · exact ⟨_, _, _, h, fun _ => rfl⟩
  · cases h
theorem mj_a2_pu {st : List mj_V} {κ : Int → Nat → Nat → List mj_V → mj_R} {x : Option mj_V × mj_M} (h : mj_a2 st κ = some x) : ∃ j s i r, κ j s i r = some x ∧ ∀ κ', mj_a2 st κ' = κ' j s i r := by
  unfold mj_a2 at h ⊢
  split at h
  · exact ⟨_, _, _, _, h, fun _ => rfl⟩
  · cases h
theorem mj_if_pu {α : Type} {c : Prop} [hc : Decidable c] {κ : α → mj_R} {v : α} {x : Option mj_V × mj_M} (h : (if c then κ v else none) = some x) : κ v = some x ∧ ∀ κ' : α → mj_R, (if c then κ' v else none) = κ' v := by
  by_cases q : c
  · rw [if_pos q] at h
    exact ⟨h, fun _ => if_pos q⟩
  · rw [if_neg q] at h
    cases h
theorem mj_i3_pu {α : Type} {c d : Prop} [hc : Decidable c] [hd : Decidable d] {A B E : α} {κ : α → mj_R} {x : Option mj_V × mj_M} (h : (if c then κ A else if d then κ B else κ E) = some x) : ∃ z, κ z = some x ∧ ∀ κ' : α → mj_R, (if c then κ' A else if d then κ' B else κ' E) = κ' z := by
  by_cases q : c
  · exact ⟨A, (if_pos q).symm.trans h, fun _ => if_pos q⟩
  · by_cases q2 : d
    · exact ⟨B, ((if_neg q).trans (if_pos q2)).symm.trans h, fun _ => (if_neg q).trans (if_pos q2)⟩
    · exact ⟨E, ((if_neg q).trans (if_neg q2)).symm.trans h, fun _ => (if_neg q).trans (if_neg q2)⟩
theorem mj_bi_pu {ins : Instr} {a b : Int} {κ : Int → mj_R} {x : Option mj_V × mj_M} (h : mj_bi ins a b κ = some x) : ∃ v, κ v = some x ∧ ∀ κ', mj_bi ins a b κ' = κ' v := by
  unfold mj_bi at h ⊢
  split at h
  all_goals first
    | (cases h; done)
    | exact ⟨_, h, fun _ => rfl⟩
    | exact ⟨_, (mj_if_pu h).1, (mj_if_pu h).2⟩
    | (split at h
       · cases h
       · rename_i q
         exact ⟨_, h, fun _ => if_neg q⟩)
theorem mj_bl_pu {ins : Instr} {a b : Int} {κ : Int → mj_R} {x : Option mj_V × mj_M} (h : mj_bl ins a b κ = some x) : ∃ v, κ v = some x ∧ ∀ κ', mj_bl ins a b κ' = κ' v := by
  unfold mj_bl at h ⊢
  split at h
  all_goals first
    | (cases h; done)
    | exact ⟨_, h, fun _ => rfl⟩
    | (split at h
       · cases h
       · rename_i q
         exact ⟨_, h, fun _ => if_neg q⟩)
section MJ
variable {LY : List mj_S} {TB : List (List Int)} {CS : List Int}
theorem mj_gf_pu {a b s i : Nat} {st : List mj_V} {μ : mj_M} {κ : List mj_V → mj_R} {x : Option mj_V × mj_M} (h : mj_gf LY a b s i st μ κ = some x) : ∃ v, κ v = some x ∧ ∀ κ', mj_gf LY a b s i st μ κ' = κ' v := by
  unfold mj_gf at h ⊢
  split at h
  · rename_i e1
    split at h
    · rename_i e2
      split at h
      · rename_i e3
        exact ⟨_, h, fun κ' => by first | rfl | simp only [e1, e2, e3]⟩
      · rename_i e3
        exact ⟨_, h, fun κ' => by first | rfl | simp only [e1, e2, e3]⟩
      · cases h
    · cases h
  · cases h
theorem mj_pf_pu {a b k s i : Nat} {v : Int} {μ : mj_M} {κ : mj_M → mj_R} {x : Option mj_V × mj_M} (h : mj_pf LY a b k s i v μ κ = some x) : ∃ v', κ v' = some x ∧ ∀ κ', mj_pf LY a b k s i v μ κ' = κ' v' := by
  unfold mj_pf at h ⊢
  split at h
  · rename_i e1
    split at h
    · rename_i e2
      split at h
      · rename_i e3
        split at h
        · exact ⟨_, h, fun κ' => by first | rfl | simp only [e1, e2, e3]⟩
        · obtain ⟨h1, h2⟩ := mj_if_pu h
          exact ⟨_, h1, fun κ' => h2 κ'⟩
      · cases h
    · cases h
  · cases h
theorem mj_tb4_pu {n : Nat} {j : Int} {κ : Int → mj_R} {x : Option mj_V × mj_M} (h : mj_tb4 TB n j κ = some x) : ∃ v, κ v = some x ∧ (∀ κ', mj_tb4 TB n j κ' = κ' v) ∧ 0 ≤ j ∧ ∃ l, mj_nth TB n = some l ∧ mj_nth l j.toNat = some v := by
  unfold mj_tb4 at h ⊢
  split at h
  · rename_i e2
    split at h
    · rename_i e3
      by_cases q : 0 ≤ j
      · rw [if_pos q] at h
        exact ⟨_, h, fun κ' => if_pos q, q, _, e2, e3⟩
      · rw [if_neg q] at h
        cases h
    · cases h
  · cases h
theorem mj_ial_pu {j : Int} {s i : Nat} {μ : mj_M} {κ : Int → mj_R} {x : Option mj_V × mj_M} (h : mj_ial LY TB j s i μ κ = some x) : ∃ v, κ v = some x ∧ ∀ κ', mj_ial LY TB j s i μ κ' = κ' v := by
  unfold mj_ial at h ⊢
  split at h
  · rename_i e1
    obtain ⟨h1, h2⟩ := mj_if_pu h
    exact ⟨_, h1, fun κ' => h2 κ'⟩
  · rename_i e1
    obtain ⟨v, h1, h2, -⟩ := mj_tb4_pu h
    exact ⟨_, h1, fun κ' => h2 κ'⟩
  · cases h
theorem mj_lal_pu {j : Int} {s i : Nat} {μ : mj_M} {κ : Int → mj_R} {x : Option mj_V × mj_M} (h : mj_lal LY j s i μ κ = some x) : ∃ v, κ v = some x ∧ ∀ κ', mj_lal LY j s i μ κ' = κ' v := by
  unfold mj_lal at h ⊢
  split at h
  · rename_i e1
    obtain ⟨h1, h2⟩ := mj_if_pu h
    exact ⟨_, h1, fun κ' => h2 κ'⟩
  · cases h
theorem mj_ias_pu {v j : Int} {s i : Nat} {μ : mj_M} {κ : mj_M → mj_R} {x : Option mj_V × mj_M} (h : mj_ias LY v j s i μ κ = some x) : ∃ v', κ v' = some x ∧ ∀ κ', mj_ias LY v j s i μ κ' = κ' v' := by
  unfold mj_ias at h ⊢
  split at h
  · rename_i e1
    obtain ⟨h1, h2⟩ := mj_if_pu h
    exact ⟨_, h1, fun κ' => h2 κ'⟩
  · cases h
theorem mj_las_pu {v j : Int} {s i : Nat} {μ : mj_M} {κ : mj_M → mj_R} {x : Option mj_V × mj_M} (h : mj_las LY v j s i μ κ = some x) : ∃ v', κ v' = some x ∧ ∀ κ', mj_las LY v j s i μ κ' = κ' v' := by
  unfold mj_las at h ⊢
  split at h
  · rename_i e1
    obtain ⟨h1, h2⟩ := mj_if_pu h
    exact ⟨_, h1, fun κ' => h2 κ'⟩
  · cases h
theorem mj_aal_pu {j : Int} {s : Nat} {κ : Nat → Nat → mj_R} {x : Option mj_V × mj_M} (h : mj_aal LY j s κ = some x) : ∃ t o, κ t o = some x ∧ ∀ κ', mj_aal LY j s κ' = κ' t o := by
  unfold mj_aal at h ⊢
  split at h
  · rename_i e1
    split at h
    · rename_i q
      exact ⟨_, _, h, fun κ' => if_pos q⟩
    · cases h
  · cases h
theorem mj_acp_pu {st : List mj_V} {μ : mj_M} {κ : List mj_V → mj_M → mj_R} {x : Option mj_V × mj_M} (h : mj_acp LY st μ κ = some x) : ∃ r m, κ r m = some x ∧ ∀ κ', mj_acp LY st μ κ' = κ' r m := by
  unfold mj_acp at h ⊢
  split at h
  · split at h
    · rename_i e1 e2
      split at h
      · rename_i q
        exact ⟨_, _, h, fun κ' => if_pos q⟩
      · cases h
    · cases h
  · cases h
theorem mj_ps_pu {ins : Instr} {a b k : Nat} {ls : mj_L} {st : List mj_V} {μ : mj_M} {κ : mj_L → List mj_V → mj_M → mj_R} {x : Option mj_V × mj_M} (h : mj_ps LY TB CS ins a b k ls st μ κ = some x) : ∃ ls' st' μ', κ ls' st' μ' = some x ∧ ∀ κ', mj_ps LY TB CS ins a b k ls st μ κ' = κ' ls' st' μ' := by
  unfold mj_ps at h ⊢
  split at h
  all_goals first
    | (cases h; done)
    | exact ⟨_, _, _, h, fun _ => rfl⟩
    | (obtain ⟨v, h1, h2⟩ := mj_ldi_pu h; exact ⟨_, _, _, h1, fun κ' => h2 _⟩)
    | (obtain ⟨v, h1, h2⟩ := mj_ldl_pu h; exact ⟨_, _, _, h1, fun κ' => h2 _⟩)
    | (obtain ⟨v, w, h1, h2⟩ := mj_lda_pu h; exact ⟨_, _, _, h1, fun κ' => h2 _⟩)
    | (obtain ⟨v, h1, h2⟩ := mj_ldi_pu h; obtain ⟨l, h3, h4⟩ := mj_sto_pu h1; exact ⟨_, _, _, h3, fun κ' => (h2 _).trans (h4 _)⟩)
    | (obtain ⟨v, r, h1, h2⟩ := mj_p1_pu h; exact ⟨_, _, _, h1, fun κ' => h2 _⟩)
    | (obtain ⟨v, r, h1, h2⟩ := mj_q1_pu h; exact ⟨_, _, _, h1, fun κ' => h2 _⟩)
    | (obtain ⟨v, r, h1, h2⟩ := mj_p1_pu h; obtain ⟨l, h3, h4⟩ := mj_sto_pu h1; exact ⟨_, _, _, h3, fun κ' => (h2 _).trans (h4 _)⟩)
    | (obtain ⟨v, r, h1, h2⟩ := mj_q1_pu h; obtain ⟨l, h3, h4⟩ := mj_stl_pu h1; exact ⟨_, _, _, h3, fun κ' => (h2 _).trans (h4 _)⟩)
    | (obtain ⟨s, i, r, h1, h2⟩ := mj_a1_pu h; obtain ⟨l, h3, h4⟩ := mj_sto_pu h1; exact ⟨_, _, _, h3, fun κ' => (h2 _).trans (h4 _)⟩)
    | (obtain ⟨v, w, r, h1, h2⟩ := mj_p2_pu h; obtain ⟨l, h3, h4⟩ := mj_bi_pu h1; exact ⟨_, _, _, h3, fun κ' => (h2 _).trans (h4 _)⟩)
    | (obtain ⟨v, w, r, h1, h2⟩ := mj_q2_pu h; obtain ⟨l, h3, h4⟩ := mj_bl_pu h1; exact ⟨_, _, _, h3, fun κ' => (h2 _).trans (h4 _)⟩)
    | (obtain ⟨v, w, r, h1, h2⟩ := mj_q2_pu h; obtain ⟨z, h3, h4⟩ := mj_i3_pu (κ := fun q => κ ls q μ) h1; exact ⟨_, _, _, h3, fun κ' => (h2 _).trans (h4 (fun q => κ' ls q μ))⟩)
    | (obtain ⟨j, s, i, r, h1, h2⟩ := mj_a2_pu h; exact ⟨_, _, _, h1, fun κ' => h2 _⟩)
    | (obtain ⟨s, i, r, h1, h2⟩ := mj_a1_pu h; obtain ⟨l, h3, h4⟩ := mj_gf_pu h1; exact ⟨_, _, _, h3, fun κ' => (h2 _).trans (h4 _)⟩)
    | (obtain ⟨j, s, i, r, h1, h2⟩ := mj_a2_pu h; obtain ⟨l, h3, h4⟩ := mj_ial_pu h1; exact ⟨_, _, _, h3, fun κ' => (h2 _).trans (h4 _)⟩)
    | (obtain ⟨j, s, i, r, h1, h2⟩ := mj_a2_pu h; obtain ⟨l, h3, h4⟩ := mj_lal_pu h1; exact ⟨_, _, _, h3, fun κ' => (h2 _).trans (h4 _)⟩)
    | (obtain ⟨j, s, i, r, h1, h2⟩ := mj_a2_pu h; obtain ⟨t, o, h3, h4⟩ := mj_aal_pu h1; exact ⟨_, _, _, h3, fun κ' => (h2 _).trans (h4 _)⟩)
    | (split at h
       · first
         | exact ⟨_, _, _, h, fun _ => rfl⟩
         | (obtain ⟨l, h3, h4⟩ := mj_pf_pu h; exact ⟨_, _, _, h3, fun κ' => h4 _⟩)
         | (obtain ⟨l, h3, h4⟩ := mj_ias_pu h; exact ⟨_, _, _, h3, fun κ' => h4 _⟩)
         | (obtain ⟨l, h3, h4⟩ := mj_las_pu h; exact ⟨_, _, _, h3, fun κ' => h4 _⟩)
         | (split at h
            · rename_i e; exact ⟨_, _, _, h, fun _ => by first | rfl | simp only [e]⟩
            · cases h)
         | (rename_i e; exact ⟨_, _, _, h, fun _ => by first | rfl | simp only [e]⟩)
       · first
         | (cases h; done)
         | exact ⟨_, _, _, h, fun _ => rfl⟩
       · cases h)
    | (split at h
       · first
         | (split at h
            · rename_i e; exact ⟨_, _, _, h, fun _ => by first | rfl | simp only [e]⟩
            · cases h)
         | (rename_i e; exact ⟨_, _, _, h, fun _ => by first | rfl | simp only [e]⟩)
         | (obtain ⟨l, h3, h4⟩ := mj_pf_pu h; exact ⟨_, _, _, h3, fun κ' => h4 _⟩)
         | (obtain ⟨l, h3, h4⟩ := mj_ias_pu h; exact ⟨_, _, _, h3, fun κ' => h4 _⟩)
         | (obtain ⟨l, h3, h4⟩ := mj_las_pu h; exact ⟨_, _, _, h3, fun κ' => h4 _⟩)
       · first
         | (cases h; done)
         | exact ⟨_, _, _, h, fun _ => rfl⟩)
end MJ
