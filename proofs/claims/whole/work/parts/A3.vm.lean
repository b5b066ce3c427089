/-! the constructors' memories hold what int fields hold -/
theorem n32_64 {x : Int} (h : mj_n32 x) : mj_n64 x := by
  unfold mj_n32 at h; unfold mj_n64; omega
theorem b255_32 {x : Int} (h : 0 ≤ x ∧ x ≤ 255) : mj_n32 x := by
  unfold mj_n32; omega
theorem vm32 {μ : mj_M} (h : ∀ s i k, mj_n32 (μ s i k)) : mk_vm μ := fun s i k => ⟨n32_64 (h s i k), fun _ => h s i k⟩
theorem Tl_b (n : Nat) : 0 ≤ Tl n ∧ Tl n ≤ 255 := by
  by_cases h : n < 54
  · exact (by decide +kernel : ∀ n, n < 54 → 0 ≤ Tl n ∧ Tl n ≤ 255) n h
  · have e : mj_nth lawC n = none := by
      rw [mj_nth_eq]; exact List.getElem?_eq_none (Nat.not_lt.mp h)
    unfold Tl
    rw [e]
    exact (by decide : (0 : Int) ≤ 0 ∧ (0 : Int) ≤ 255)
theorem Wr_b (n : Nat) : 0 ≤ Wr n ∧ Wr n ≤ 255 := by
  by_cases h : n < 96
  · exact (by decide +kernel : ∀ n, n < 96 → 0 ≤ Wr n ∧ Wr n ≤ 255) n h
  · have e : mj_nth wordsR n = none := by
      rw [mj_nth_eq]; exact List.getElem?_eq_none (Nat.not_lt.mp h)
    unfold Wr
    rw [e]
    exact (by decide : (0 : Int) ≤ 0 ∧ (0 : Int) ≤ 255)
theorem memC_32 (s i k : Nat) : mj_n32 (memC s i k) := by
  unfold memC
  repeat' split
  all_goals (unfold mj_n32; decide)
theorem memR_32 (s i k : Nat) : mj_n32 (memR s i k) := by
  unfold memR
  by_cases q1 : s = 33
  · rw [if_pos q1]
    repeat' split
    all_goals (unfold mj_n32; decide)
  rw [if_neg q1]
  by_cases q2 : s = 45
  · rw [if_pos q2]; unfold mj_n32; decide
  rw [if_neg q2]
  by_cases q3 : s = 48
  · rw [if_pos q3]; exact b255_32 (Tl_b k)
  rw [if_neg q3]
  by_cases q4 : s = 49
  · rw [if_pos q4]; exact b255_32 (Wr_b k)
  rw [if_neg q4]; unfold mj_n32; decide
theorem n54 (n : Nat) (h : n < 54) : mj_n32 ((n + 1 : Nat) : Int) := by
  unfold mj_n32; omega
theorem apM_vm : ∀ n, n ≤ 54 → mk_vm (apM n)
  | 0, _ => vm32 memC_32
  | n + 1, h => by
    have a := b255_32 (Tl_b n)
    have b := n54 n h
    exact mk_vm_up (mk_vm_up (apM_vm n (Nat.le_of_succ_le h)) (n32_64 a) (fun _ => a)) (n32_64 b) (fun _ => b)
theorem tpM_vm : ∀ n, mk_vm (tpM n)
  | 0 => vm32 memR_32
  | n + 1 => by
    have a := b255_32 (Tl_b n)
    exact mk_vm_up (tpM_vm n) (n32_64 a) (fun _ => a)
