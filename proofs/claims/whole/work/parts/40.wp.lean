/-! reading equations: what a call comes to, and what holds then -/
def mw (r : mj_R) (Q : Option mj_V → mj_M → Prop) : Prop := ∃ v μ, r = some (v, μ) ∧ Q v μ
theorem mw_ret {v : Option mj_V} {μ : mj_M} {Q : Option mj_V → mj_M → Prop} (h : Q v μ) : mw (some (v, μ)) Q := ⟨v, μ, rfl, h⟩
theorem mw_ite {c : Prop} [hc : Decidable c] {A B : mj_R} {Q : Option mj_V → mj_M → Prop} (h1 : c → mw A Q) (h2 : ¬ c → mw B Q) : mw (if c then A else B) Q := by
  by_cases h : c
  · rw [if_pos h]; exact h1 h
  · rw [if_neg h]; exact h2 h
theorem mw_pos {c : Prop} [hc : Decidable c] {A B : mj_R} {Q : Option mj_V → mj_M → Prop} (h : c) (h1 : mw A Q) : mw (if c then A else B) Q := by
  rw [if_pos h]; exact h1
theorem mw_neg {c : Prop} [hc : Decidable c] {A B : mj_R} {Q : Option mj_V → mj_M → Prop} (h : ¬ c) (h1 : mw B Q) : mw (if c then A else B) Q := by
  rw [if_neg h]; exact h1
theorem mw_eq {r r' : mj_R} {Q : Option mj_V → mj_M → Prop} (h : r = r') (h1 : mw r' Q) : mw r Q := h ▸ h1
theorem mw_mono {r : mj_R} {Q Q' : Option mj_V → mj_M → Prop} (h : mw r Q) (k : ∀ v μ, Q v μ → Q' v μ) : mw r Q' := by
  obtain ⟨v, μ, h1, h2⟩ := h
  exact ⟨v, μ, h1, k v μ h2⟩
/-- of a call that gives an int; a long; nothing -/
def mwI (r : mj_R) (Q : Int → mj_M → Prop) : Prop := ∃ x μ, r = some (some (v_i x), μ) ∧ Q x μ
def mwL (r : mj_R) (Q : Int → mj_M → Prop) : Prop := ∃ x μ, r = some (some (v_l x), μ) ∧ Q x μ
def mwV (r : mj_R) (Q : mj_M → Prop) : Prop := ∃ μ, r = some (none, μ) ∧ Q μ
theorem mwI_mono {r : mj_R} {Q Q' : Int → mj_M → Prop} (h : mwI r Q) (k : ∀ x μ, Q x μ → Q' x μ) : mwI r Q' := by
  obtain ⟨x, μ, h1, h2⟩ := h
  exact ⟨x, μ, h1, k x μ h2⟩
theorem mwL_mono {r : mj_R} {Q Q' : Int → mj_M → Prop} (h : mwL r Q) (k : ∀ x μ, Q x μ → Q' x μ) : mwL r Q' := by
  obtain ⟨x, μ, h1, h2⟩ := h
  exact ⟨x, μ, h1, k x μ h2⟩
theorem mwV_mono {r : mj_R} {Q Q' : mj_M → Prop} (h : mwV r Q) (k : ∀ μ, Q μ → Q' μ) : mwV r Q' := by
  obtain ⟨μ, h1, h2⟩ := h
  exact ⟨μ, h1, k μ h2⟩
theorem mwI_ret {x : Int} {μ : mj_M} {Q : Int → mj_M → Prop} (h : Q x μ) : mwI (some (some (v_i x), μ)) Q := ⟨x, μ, rfl, h⟩
theorem mwL_ret {x : Int} {μ : mj_M} {Q : Int → mj_M → Prop} (h : Q x μ) : mwL (some (some (v_l x), μ)) Q := ⟨x, μ, rfl, h⟩
theorem mwV_ret {μ : mj_M} {Q : mj_M → Prop} (h : Q μ) : mwV (some (none, μ)) Q := ⟨μ, rfl, h⟩
/-- kinds of ends in one: K r Q of any of the three, in the same words -/
theorem mwI_ite {c : Prop} [hc : Decidable c] {A B : mj_R} {Q : Int → mj_M → Prop} (h1 : c → mwI A Q) (h2 : ¬ c → mwI B Q) : mwI (if c then A else B) Q := by
  by_cases h : c
  · rw [if_pos h]; exact h1 h
  · rw [if_neg h]; exact h2 h
theorem mwL_ite {c : Prop} [hc : Decidable c] {A B : mj_R} {Q : Int → mj_M → Prop} (h1 : c → mwL A Q) (h2 : ¬ c → mwL B Q) : mwL (if c then A else B) Q := by
  by_cases h : c
  · rw [if_pos h]; exact h1 h
  · rw [if_neg h]; exact h2 h
theorem mwV_ite {c : Prop} [hc : Decidable c] {A B : mj_R} {Q : mj_M → Prop} (h1 : c → mwV A Q) (h2 : ¬ c → mwV B Q) : mwV (if c then A else B) Q := by
  by_cases h : c
  · rw [if_pos h]; exact h1 h
  · rw [if_neg h]; exact h2 h
theorem mwI_rI {r : mj_R} {f : Int → mj_M → mj_R} {Q : Int → mj_M → Prop} (h : mwI r (fun x μ => mwI (f x μ) Q)) : mwI (mj_rI r f) Q := by
  obtain ⟨x, μ, rfl, h⟩ := h; exact h
theorem mwI_rL {r : mj_R} {f : Int → mj_M → mj_R} {Q : Int → mj_M → Prop} (h : mwL r (fun x μ => mwI (f x μ) Q)) : mwI (mj_rL r f) Q := by
  obtain ⟨x, μ, rfl, h⟩ := h; exact h
theorem mwI_rV {r : mj_R} {f : mj_M → mj_R} {Q : Int → mj_M → Prop} (h : mwV r (fun μ => mwI (f μ) Q)) : mwI (mj_rV r f) Q := by
  obtain ⟨μ, rfl, h⟩ := h; exact h
theorem mwL_rI {r : mj_R} {f : Int → mj_M → mj_R} {Q : Int → mj_M → Prop} (h : mwI r (fun x μ => mwL (f x μ) Q)) : mwL (mj_rI r f) Q := by
  obtain ⟨x, μ, rfl, h⟩ := h; exact h
theorem mwL_rL {r : mj_R} {f : Int → mj_M → mj_R} {Q : Int → mj_M → Prop} (h : mwL r (fun x μ => mwL (f x μ) Q)) : mwL (mj_rL r f) Q := by
  obtain ⟨x, μ, rfl, h⟩ := h; exact h
theorem mwL_rV {r : mj_R} {f : mj_M → mj_R} {Q : Int → mj_M → Prop} (h : mwV r (fun μ => mwL (f μ) Q)) : mwL (mj_rV r f) Q := by
  obtain ⟨μ, rfl, h⟩ := h; exact h
theorem mwV_rI {r : mj_R} {f : Int → mj_M → mj_R} {Q : mj_M → Prop} (h : mwI r (fun x μ => mwV (f x μ) Q)) : mwV (mj_rI r f) Q := by
  obtain ⟨x, μ, rfl, h⟩ := h; exact h
theorem mwV_rV {r : mj_R} {f : mj_M → mj_R} {Q : mj_M → Prop} (h : mwV r (fun μ => mwV (f μ) Q)) : mwV (mj_rV r f) Q := by
  obtain ⟨μ, rfl, h⟩ := h; exact h
theorem mwI_eq {r : mj_R} {x : Int} {μ : mj_M} {Q : Int → mj_M → Prop} (h : r = some (some (v_i x), μ)) (h1 : Q x μ) : mwI r Q := ⟨x, μ, h, h1⟩
theorem mwV_eq {r : mj_R} {μ : mj_M} {Q : mj_M → Prop} (h : r = some (none, μ)) (h1 : Q μ) : mwV r Q := ⟨μ, h, h1⟩
theorem mwI_to {r : mj_R} {x : Int} {μ : mj_M} (h : mwI r (fun y ν => y = x ∧ ν = μ)) : r = some (some (v_i x), μ) := by
  obtain ⟨y, ν, h, rfl, rfl⟩ := h; exact h
theorem mwV_to {r : mj_R} {μ : mj_M} (h : mwV r (fun ν => ν = μ)) : r = some (none, μ) := by
  obtain ⟨ν, h, rfl⟩ := h; exact h
/-- reading -/
theorem rI_some (x : Int) (μ : mj_M) (f : Int → mj_M → mj_R) : mj_rI (some (some (v_i x), μ)) f = f x μ := rfl
theorem rL_some (x : Int) (μ : mj_M) (f : Int → mj_M → mj_R) : mj_rL (some (some (v_l x), μ)) f = f x μ := rfl
theorem rV_some (μ : mj_M) (f : mj_M → mj_R) : mj_rV (some (none, μ)) f = f μ := rfl
theorem up_ap (μ : mj_M) (s i k : Nat) (x : Int) (s' i' k' : Nat) : mj_up μ s i k x s' i' k' = if s' = s ∧ k' = k ∧ i' = i then x else μ s' i' k' := rfl
theorem up_eq (μ : mj_M) (s i k : Nat) (x : Int) : mj_up μ s i k x s i k = x := by rw [up_ap, if_pos ⟨rfl, rfl, rfl⟩]
theorem up_ns {μ : mj_M} {s i k : Nat} {x : Int} {s' i' k' : Nat} (h : s' ≠ s) : mj_up μ s i k x s' i' k' = μ s' i' k' := by rw [up_ap, if_neg (fun q => h q.1)]
theorem up_nk {μ : mj_M} {s i k : Nat} {x : Int} {s' i' k' : Nat} (h : k' ≠ k) : mj_up μ s i k x s' i' k' = μ s' i' k' := by rw [up_ap, if_neg (fun q => h q.2.1)]
theorem up_ni {μ : mj_M} {s i k : Nat} {x : Int} {s' i' k' : Nat} (h : i' ≠ i) : mj_up μ s i k x s' i' k' = μ s' i' k' := by rw [up_ap, if_neg (fun q => h q.2.2)]
theorem wi {z : Int} (h1 : -2147483648 ≤ z) (h2 : z < 2147483648) : mj_w z = z := mj_w_id ⟨h1, h2⟩
theorem xi {z : Int} (h1 : -9223372036854775808 ≤ z) (h2 : z < 9223372036854775808) : mj_x z = z := mj_x_id ⟨h1, h2⟩
/-- one place after another -/
theorem loop_up {P : Nat → Prop} {m : Nat} (h0 : P m) (hs : ∀ k, k < m → P (k + 1) → P k) : ∀ k, k ≤ m → P k := by
  have : ∀ j k, k + j = m → P k := by
    intro j
    induction j with
    | zero => intro k hk; rw [Nat.add_zero] at hk; exact hk ▸ h0
    | succ j ih => intro k hk; exact hs k (by omega) (ih (k + 1) (by omega))
  intro k hk
  exact this (m - k) k (by omega)
/-- what stays -/
def fr (P : Nat → Nat → Nat → Bool) (μ μ' : mj_M) : Prop := ∀ s i k, P s i k = false → μ' s i k = μ s i k
theorem fr_rf {P : Nat → Nat → Nat → Bool} {μ : mj_M} : fr P μ μ := fun _ _ _ _ => rfl
theorem fr_tr {P : Nat → Nat → Nat → Bool} {μ μ' μ'' : mj_M} (h : fr P μ μ') (h' : fr P μ' μ'') : fr P μ μ'' := fun s i k q => (h' s i k q).trans (h s i k q)
theorem fr_up {P : Nat → Nat → Nat → Bool} {μ : mj_M} {s i k : Nat} {x : Int} (h : P s i k = true) : fr P μ (mj_up μ s i k x) := by
  intro s' i' k' q
  rw [up_ap, if_neg]
  rintro ⟨rfl, rfl, rfl⟩
  rw [h] at q
  cases q
theorem fr_mono {P P' : Nat → Nat → Nat → Bool} {μ μ' : mj_M} (h : fr P μ μ') (hp : ∀ s i k, P' s i k = false → P s i k = false) : fr P' μ μ' := fun s i k q => h s i k (hp s i k q)
