/-! the memories that the constructors build: all fields as they are first, then the first law on the tapes -/
def memC : mj_M := fun s _ k => if s = 1 then (if k = 7 then 3 else if k = 8 then 120 else 0) else if s = 14 then (if k = 7 then 14 else 0) else if s = 19 then (if k = 0 then -1 else 0) else if s = 7 then (if k = 2 then 1 else 0) else if s = 31 then (if k = 0 then -1 else 2147483647) else 0
def memR : mj_M := fun s _ k => if s = 33 then (if k = 3 then 3 else if k = 4 then 120 else 0) else if s = 45 then -1 else if s = 48 then Tl k else if s = 49 then Wr k else 0
/-- .. the class's tape with n bytes appended; the reference's with n copied, its size still 0 -/
def apM : Nat → mj_M
  | 0 => memC
  | n + 1 => mj_up (mj_up (apM n) 15 0 n (Tl n)) 14 0 1 ((n + 1 : Nat) : Int)
def tpM : Nat → mj_M
  | 0 => memR
  | n + 1 => mj_up (tpM n) 40 0 n (Tl n)
def pAp : Nat → Nat → Nat → Bool := fun s _ k => s == 15 || (s == 14 && k == 1)
def pTp : Nat → Nat → Nat → Bool := fun s _ _ => s == 40
theorem apM_at : ∀ n, apM n 14 0 1 = (n : Int) ∧ (∀ i, i < n → apM n 15 0 i = Tl i) ∧ fr pAp memC (apM n)
  | 0 => ⟨rfl, fun i hi => absurd hi (Nat.not_lt_zero i), fr_rf⟩
  | n + 1 => by
    obtain ⟨-, h2, h3⟩ := apM_at n
    refine ⟨up_eq _ _ _ _ _, fun i hi => ?_, fr_tr h3 (fr_tr (fr_up rfl) (fr_up rfl))⟩
    show mj_up (mj_up (apM n) 15 0 n (Tl n)) 14 0 1 ((n + 1 : Nat) : Int) 15 0 i = Tl i
    rw [up_ns (by decide)]
    by_cases e : i = n
    · rw [e, up_eq]
    · rw [up_nk e]; exact h2 i (by omega)
theorem apM_s (d n : Nat) (h : n < 54) : kc (d + 1) 197 [v_r 14 0, v_i (Tl n)] (apM n) = some (none, apM (n + 1)) :=
  kc197 d n (Tl n) (apM n) (apM_at n).1 (Nat.lt_trans h (by decide))
theorem tpM_at : ∀ n, (∀ i, i < n → tpM n 40 0 i = Tl i) ∧ fr pTp memR (tpM n)
  | 0 => ⟨fun i hi => absurd hi (Nat.not_lt_zero i), fr_rf⟩
  | n + 1 => by
    obtain ⟨h2, h3⟩ := tpM_at n
    refine ⟨fun i hi => ?_, fr_tr h3 (fr_up rfl)⟩
    show mj_up (tpM n) 40 0 n (Tl n) 40 0 i = Tl i
    by_cases e : i = n
    · rw [e, up_eq]
    · rw [up_nk e]; exact h2 i (by omega)
/-- with these, all is alike from the constructors on -/
theorem mem_start (d : Nat) : mw2 (kc (d + 60) 6 [v_r 0 0] (apM 54)) (kc (d + 60) 94 [v_r 33 0] (mj_up (tpM 54) 33 0 12 54)) := by
  obtain ⟨c1, c2, c3⟩ := apM_at 54
  obtain ⟨r1, r2⟩ := tpM_at 54
  refine Inv_first d ⟨⟨by decide, by decide, ?_, ?_, ?_, ?_⟩, ⟨⟨?_, ?_⟩, ⟨?_, ?_⟩, ⟨?_, ?_⟩⟩, ⟨?_, ?_, ?_, ?_⟩, fun c hc => absurd hc (Nat.not_lt_zero c), fun a ha => absurd ha (Nat.not_lt_zero a)⟩ ⟨?_, ?_⟩ (fun s hs => ⟨⟨?_, ?_⟩, ⟨?_, ?_⟩, fun i hi => ⟨?_, ?_⟩⟩) ⟨?_, ?_⟩ ?_ ?_ c1 (up_eq _ _ _ _ _) c2 (fun i hi => ?_) (fun i hi => ?_)
  · exact (c3 1 0 0 rfl).trans rfl
  · rw [up_nk (by decide), r2 33 0 0 rfl]; rfl
  · exact (c3 1 0 4 rfl).trans rfl
  · rw [up_nk (by decide), r2 33 0 5 rfl]; rfl
  · rw [up_nk (by decide), r2 33 0 2 rfl, c3 1 0 6 rfl]; rfl
  · rw [c3 1 0 6 rfl]; exact ⟨by decide, by decide⟩
  · rw [up_nk (by decide), r2 33 0 3 rfl, c3 1 0 7 rfl]; rfl
  · rw [c3 1 0 7 rfl]; exact ⟨by decide, by decide⟩
  · rw [up_nk (by decide), r2 33 0 4 rfl, c3 1 0 8 rfl]; rfl
  · rw [c3 1 0 8 rfl]; exact ⟨by decide, by decide⟩
  · exact (c3 1 0 10 rfl).trans rfl
  · exact (c3 1 0 11 rfl).trans rfl
  · rw [up_nk (by decide), r2 33 0 41 rfl]; rfl
  · rw [up_nk (by decide), r2 33 0 50 rfl]; rfl
  · exact (c3 0 0 2 rfl).trans rfl
  · rw [up_nk (by decide), r2 33 0 17 rfl]; rfl
  · rw [up_ns (by decide), r2 45 0 s rfl, c3 19 s 0 rfl]; rfl
  · rw [c3 19 s 0 rfl]; exact (by decide : (-1 : Int) ≤ -1 ∧ (-1 : Int) ≤ 2)
  · rw [up_ns (by decide), r2 46 0 s rfl, c3 19 s 1 rfl]; rfl
  · rw [c3 19 s 1 rfl]; exact (by decide : (0 : Int) ≤ 0 ∧ (0 : Int) ≤ 40)
  · rw [up_ns (by decide), r2 47 0 _ rfl, c3 20 s i rfl]; rfl
  · rw [c3 20 s i rfl]; exact (by decide : (-2147483648 : Int) ≤ 0 ∧ (0 : Int) < 2147483648)
  · exact (c3 1 0 9 rfl).trans rfl
  · rw [up_nk (by decide), r2 33 0 16 rfl]; rfl
  · exact (c3 0 0 5 rfl).trans rfl
  · rw [up_nk (by decide), r2 33 0 15 rfl]; rfl
  · rw [up_ns (by decide)]; exact r1 i hi
  · rw [up_ns (by decide), r2 49 0 i rfl]; rfl
