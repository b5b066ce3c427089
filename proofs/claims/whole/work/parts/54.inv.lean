/-! what stays alike between the two from call to call -/
def mC (μ : mj_M) : mj_M := fun s i k => if sC s i k = true then 0 else μ s i k
def mR (ρ : mj_M) : mj_M := fun s i k => if sR s i k = true then 0 else ρ s i k
theorem mC_fr {μ μ' : mj_M} (h : fr sC μ μ') : mC μ' = mC μ := by
  funext s i k
  unfold mC
  cases q : sC s i k with
  | true => rfl
  | false => exact h s i k q
theorem mR_fr {ρ ρ' : mj_M} (h : fr sR ρ ρ') : mR ρ' = mR ρ := by
  funext s i k
  unfold mR
  cases q : sR s i k with
  | true => rfl
  | false => exact h s i k q
def rg (x lo hi : Int) : Prop := lo ≤ x ∧ x ≤ hi
def vHall (μ ρ : mj_M) (n m : Nat) : Prop :=
  (n ≤ 4 ∧ m ≤ 16 ∧ μ 1 0 0 = (n : Int) ∧ ρ 33 0 0 = (n : Int) ∧ μ 1 0 4 = (m : Int) ∧ ρ 33 0 5 = (m : Int)) ∧
  ((ρ 33 0 2 = μ 1 0 6 ∧ rg (μ 1 0 6) 0 3) ∧ (ρ 33 0 3 = μ 1 0 7 ∧ rg (μ 1 0 7) 1 9) ∧ (ρ 33 0 4 = μ 1 0 8 ∧ rg (μ 1 0 8) 0 120)) ∧
  (μ 1 0 10 = 0 ∧ μ 1 0 11 = 0 ∧ ρ 33 0 41 = 0 ∧ ρ 33 0 50 = 0) ∧
  (∀ c, c < n → (ρ 34 0 (3 * c) = μ 2 0 c ∧ rg (μ 2 0 c) 0 15) ∧ (ρ 34 0 (3 * c + 1) = μ 3 0 c ∧ rg (μ 3 0 c) 0 9) ∧ (ρ 34 0 (3 * c + 2) = μ 4 0 c ∧ rg (μ 4 0 c) (-1) 119)) ∧
  (∀ a, a < m → (ρ 35 0 a = μ 7 a 0 ∧ rg (μ 7 a 0) 0 5) ∧ (ρ 36 0 a = μ 7 a 1 ∧ rg (μ 7 a 1) 0 3) ∧ (ρ 37 0 a = μ 7 a 2 ∧ rg (μ 7 a 2) 1 99) ∧ (ρ 38 0 a = μ 7 a 3 ∧ rg (μ 7 a 3) 0 9) ∧ (ρ 39 0 a = μ 5 0 a ∧ rg (μ 5 0 a) 0 119))
def vText (μ ρ : mj_M) (t tc : Nat) : Prop :=
  (t < tc ∧ tc ≤ 6 ∧ μ 1 0 9 = (t : Int) ∧ ρ 33 0 16 = (t : Int) ∧ μ 0 0 5 = (tc : Int) ∧ ρ 33 0 15 = (tc : Int)) ∧ ∀ j, j < tc → ∃ g e, txtC μ j g e ∧ txtR ρ j g e ∧ pTxt g e
def wordsR : List Int := [116, 97, 107, 101, 115, 32, 32, 32, 119, 97, 105, 116, 115, 32, 32, 32, 109, 105, 110, 100, 115, 32, 32, 32, 98, 97, 115, 101, 32, 32, 32, 32, 109, 111, 114, 101, 32, 32, 32, 32, 115, 108, 111, 119, 32, 32, 32, 32, 119, 97, 105, 116, 32, 32, 32, 32, 115, 97, 105, 100, 32, 32, 32, 32, 108, 101, 116, 116, 101, 114, 32, 32, 111, 114, 32, 32, 32, 32, 32, 32, 97, 110, 100, 32, 32, 32, 32, 32, 110, 111, 116, 32, 32, 32, 32, 32]
def Wr (n : Nat) : Int := match mj_nth wordsR n with
  | some x => x
  | none => 0
/-- the tape; and the reference's row of words, which nobody writes -/
def vTape (μ ρ : mj_M) (z : Nat) : Prop := (z ≤ 160 ∧ μ 14 0 1 = (z : Int) ∧ ρ 33 0 12 = (z : Int)) ∧ ∀ i, (i < z → ρ 40 0 i = μ 15 0 i ∧ rg (μ 15 0 i) 0 255) ∧ (i < 96 → ρ 49 0 i = Wr i)
def vImg (μ ρ : mj_M) (m tc : Nat) : Prop :=
  (μ 0 0 2 = 0 ∧ ρ 33 0 17 = 0) ∨ (μ 0 0 2 = 1 ∧ ρ 33 0 17 = 1 ∧ ∃ n' m' t' : Nat, (n' ≤ 4 ∧ m' ≤ m ∧ t' < tc ∧ μ 1 1 0 = (n' : Int) ∧ ρ 33 0 18 = (n' : Int) ∧ μ 1 1 4 = (m' : Int) ∧ ρ 33 0 22 = (m' : Int) ∧ μ 1 1 9 = (t' : Int) ∧ ρ 33 0 23 = (t' : Int)) ∧
  ((ρ 33 0 19 = μ 1 1 6 ∧ rg (μ 1 1 6) 0 3) ∧ (ρ 33 0 20 = μ 1 1 7 ∧ rg (μ 1 1 7) 1 9) ∧ (ρ 33 0 21 = μ 1 1 8 ∧ rg (μ 1 1 8) 0 120)) ∧
  (μ 1 1 10 = 0 ∧ μ 1 1 11 = 0) ∧
  (∀ c, c < n' → (ρ 43 0 (3 * c) = μ 2 1 c ∧ rg (μ 2 1 c) 0 15) ∧ (ρ 43 0 (3 * c + 1) = μ 3 1 c ∧ rg (μ 3 1 c) 0 9) ∧ (ρ 43 0 (3 * c + 2) = μ 4 1 c ∧ rg (μ 4 1 c) (-1) 119)) ∧
  (∀ a, a < m' → ρ 44 0 a = μ 5 1 a ∧ rg (μ 5 1 a) 0 119))
def vSheets (μ ρ : mj_M) : Prop := ∀ s, s < 4 → (ρ 45 0 s = μ 19 s 0 ∧ rg (μ 19 s 0) (-1) 2) ∧ (ρ 46 0 s = μ 19 s 1 ∧ rg (μ 19 s 1) 0 40) ∧ ∀ i, i < 40 → ρ 47 0 (40 * s + i) = μ 20 s i ∧ mj_n32 (μ 20 s i)
def vAll (μ ρ : mj_M) (n m t tc z : Nat) : Prop := vHall μ ρ n m ∧ vText μ ρ t tc ∧ vTape μ ρ z ∧ vImg μ ρ m tc ∧ vSheets μ ρ
def Inv (μ ρ : mj_M) : Prop := ∃ n m t tc z, vAll (mC μ) (mR ρ) n m t tc z
theorem Inv_fr {μ ρ μ' ρ' : mj_M} (h : Inv μ ρ) (hf : fr sC μ μ') (hg : fr sR ρ ρ') : Inv μ' ρ' := by
  unfold Inv at h ⊢
  rw [mC_fr hf, mR_fr hg]
  exact h
/-- the hall, as a day is lived by it -/
def hI (μ : mj_M) (n m : Nat) (g : Nat → Int) (e : Nat → Nat) : pI := ((n, m), (fun r => match r with
  | 0 => fun k => (match k with
    | 0 => μ 1 0 6
    | 1 => μ 1 0 7
    | 2 => μ 1 0 8
    | _ => 0)
  | 1 => μ 2 0
  | 2 => μ 3 0
  | 3 => μ 4 0
  | 4 => μ 5 0
  | 5 => fun a => μ 7 a 0
  | 6 => fun a => μ 7 a 1
  | 7 => fun a => μ 7 a 2
  | 8 => fun a => μ 7 a 3
  | _ => g), e)
/-- all that a day needs, of both -/
def dAll (μ ρ : mj_M) (I : pI) (t : Nat) : Prop := iC μ 0 I t ∧ iR ρ I t ∧ iOK I ∧ μ 1 0 9 = (t : Int) ∧ I.quick = 0 ∧ I.right = 0
theorem Inv_day {μ ρ : mj_M} (h : Inv μ ρ) : ∃ I t, dAll μ ρ I t ∧ (∀ c, c < I.n → rg (I.slow c) 0 9) := by
  obtain ⟨n, m, t, tc, z, ⟨⟨a1, a2, a3, a4, a5, a6⟩, ⟨⟨b1, b2⟩, ⟨b3, b4⟩, ⟨b5, b6⟩⟩, ⟨c1, c2, c3, c4⟩, hc, ha⟩, ⟨⟨t1, t2, t3, t4, t5, t6⟩, ht⟩, -⟩ := h
  obtain ⟨g, e, g1, g2, g3⟩ := ht t t1
  refine ⟨hI μ n m g e, t, ⟨⟨a3, a5, rfl, rfl, rfl, c1, c2, fun _ _ => rfl, fun _ _ => rfl, fun _ _ => rfl, fun _ _ => rfl, fun _ _ => ⟨rfl, rfl, rfl, rfl⟩, g1⟩, ⟨a4, a6, b1, b3, b5, c3, c4, fun c q => (hc c q).1.1, fun c q => (hc c q).2.1.1, fun c q => (hc c q).2.2.1, fun a q => (ha a q).1.1, fun a q => (ha a q).2.1.1, fun a q => (ha a q).2.2.1.1, fun a q => (ha a q).2.2.2.1.1, fun a q => (ha a q).2.2.2.2.1, t4, Nat.lt_of_lt_of_le t1 t2, g2⟩, ⟨a1, a2, fun c q => (hc c q).1.2, fun c q => (hc c q).2.2.2, fun a q => (ha a q).2.2.2.2.2, fun a q => (ha a q).2.1.2, fun a q => ?_, fun a q => (ha a q).2.2.2.1.2, g3⟩, t3, rfl, rfl⟩, fun c q => (hc c q).2.1.2⟩
  have := (ha a q).2.2.1.2
  exact ⟨Int.le_trans (by decide) this.1, this.2⟩
/-- two calls, one answer -/
def mw2 (r r' : mj_R) : Prop := ∃ x μ ρ, r = some (some (v_i x), μ) ∧ r' = some (some (v_i x), ρ) ∧ Inv μ ρ
def mw2L (r r' : mj_R) : Prop := ∃ x μ ρ, r = some (some (v_l x), μ) ∧ r' = some (some (v_l x), ρ) ∧ Inv μ ρ
theorem mw2_of {r r' : mj_R} {μ ρ : mj_M} {x : Int} (h : Inv μ ρ) (h1 : mwI r (fun y μ' => y = x ∧ fr sC μ μ')) (h2 : mwI r' (fun y ρ' => y = x ∧ fr sR ρ ρ')) : mw2 r r' := by
  obtain ⟨y, μ', e, rfl, f⟩ := h1
  obtain ⟨y', ρ', e', rfl, f'⟩ := h2
  exact ⟨_, μ', ρ', e, e', Inv_fr h f f'⟩
