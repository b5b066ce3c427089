/-! numbers of the small machine, and the machine's own -/
def mj_n32 (x : Int) : Prop := -2147483648 ≤ x ∧ x < 2147483648
def mj_n64 (x : Int) : Prop := -9223372036854775808 ≤ x ∧ x < 9223372036854775808
theorem mj_n32_64 {x : Int} (h : mj_n32 x) : mj_n64 x := by
  unfold mj_n32 at h; unfold mj_n64; omega
theorem mj_w_in (z : Int) : mj_n32 (mj_w z) := by
  unfold mj_n32 mj_w; omega
theorem mj_x_in (z : Int) : mj_n64 (mj_x z) := by
  unfold mj_n64 mj_x; omega
theorem mj_w_id {z : Int} (h : mj_n32 z) : mj_w z = z := by
  unfold mj_n32 at h; unfold mj_w; omega
theorem mj_x_id {z : Int} (h : mj_n64 z) : mj_x z = z := by
  unfold mj_n64 at h; unfold mj_x; omega
theorem mj_tI {x : Int} (h : mj_n32 x) : (Int32.ofInt x).toInt = x := Int32.toInt_ofInt_of_le (by unfold mj_n32 at h; omega) (by unfold mj_n32 at h; omega)
theorem mj_tL {x : Int} (h : mj_n64 x) : (Int64.ofInt x).toInt = x := Int64.toInt_ofInt_of_le (by unfold mj_n64 at h; omega) (by unfold mj_n64 at h; omega)
theorem mj_I_w (z : Int) : Int32.ofInt (mj_w z) = Int32.ofInt z := by
  apply Int32.toInt_inj.1
  rw [Int32.toInt_ofInt, Int32.toInt_ofInt]
  show (mj_w z).bmod 4294967296 = z.bmod 4294967296
  rw [Int.bmod_def, Int.bmod_def]
  unfold mj_w
  omega
theorem mj_L_x (z : Int) : Int64.ofInt (mj_x z) = Int64.ofInt z := by
  apply Int64.toInt_inj.1
  rw [Int64.toInt_ofInt, Int64.toInt_ofInt]
  show (mj_x z).bmod 18446744073709551616 = z.bmod 18446744073709551616
  rw [Int.bmod_def, Int.bmod_def]
  unfold mj_x
  omega
theorem mj_I_inj {x y : Int} (hx : mj_n32 x) (hy : mj_n32 y) : Int32.ofInt x = Int32.ofInt y ↔ x = y := by
  rw [← Int32.toInt_inj, mj_tI hx, mj_tI hy]
theorem mj_I_lt {x y : Int} (hx : mj_n32 x) (hy : mj_n32 y) : Int32.ofInt x < Int32.ofInt y ↔ x < y := by
  rw [Int32.lt_iff_toInt_lt, mj_tI hx, mj_tI hy]
theorem mj_I_le {x y : Int} (hx : mj_n32 x) (hy : mj_n32 y) : Int32.ofInt x ≤ Int32.ofInt y ↔ x ≤ y := by
  rw [Int32.le_iff_toInt_le, mj_tI hx, mj_tI hy]
theorem mj_L_inj {x y : Int} (hx : mj_n64 x) (hy : mj_n64 y) : Int64.ofInt x = Int64.ofInt y ↔ x = y := by
  rw [← Int64.toInt_inj, mj_tL hx, mj_tL hy]
theorem mj_L_lt {x y : Int} (hx : mj_n64 x) (hy : mj_n64 y) : Int64.ofInt x < Int64.ofInt y ↔ x < y := by
  rw [Int64.lt_iff_toInt_lt, mj_tL hx, mj_tL hy]
theorem mj_n0 : mj_n32 0 := by unfold mj_n32; omega
theorem mj_n1 : mj_n32 1 := by unfold mj_n32; omega
theorem mj_I_0 : Int32.ofInt 0 = 0 := rfl
theorem mj_tmod_in {x y : Int} (hx : mj_n32 x) : mj_n32 (x.tmod y) := by
  unfold mj_n32 at hx ⊢
  have h1 := Int.natAbs_tmod x y
  have h2 : x.natAbs % y.natAbs ≤ x.natAbs := Nat.mod_le _ _
  by_cases h : 0 ≤ x
  · have h3 := Int.tmod_nonneg y h
    omega
  · have h3 : (-x).tmod y = -(x.tmod y) := Int.neg_tmod x y
    have h4 := Int.tmod_nonneg y (show 0 ≤ -x by omega)
    omega
theorem mj_tmod_in64 {x y : Int} (hx : mj_n64 x) : mj_n64 (x.tmod y) := by
  unfold mj_n64 at hx ⊢
  have h1 := Int.natAbs_tmod x y
  have h2 : x.natAbs % y.natAbs ≤ x.natAbs := Nat.mod_le _ _
  by_cases h : 0 ≤ x
  · have h3 := Int.tmod_nonneg y h
    omega
  · have h3 : (-x).tmod y = -(x.tmod y) := Int.neg_tmod x y
    have h4 := Int.tmod_nonneg y (show 0 ≤ -x by omega)
    omega
theorem mj_mn32 : Int32.minValue.toInt = -2147483648 := by decide
theorem mj_mx32 : Int32.maxValue.toInt = 2147483647 := by decide
theorem mj_mn64 : Int64.minValue.toInt = -9223372036854775808 := by decide
theorem mj_mx64 : Int64.maxValue.toInt = 9223372036854775807 := by decide
theorem mj_I_div {x y : Int} (hx : mj_n32 x) (hy : mj_n32 y) : Int32.ofInt (mj_w (x.tdiv y)) = Int32.ofInt x / Int32.ofInt y := by
  rw [mj_I_w]
  unfold mj_n32 at hx hy
  exact Int32.ofInt_tdiv (by rw [mj_mn32]; omega) (by rw [mj_mx32]; omega) (by rw [mj_mn32]; omega) (by rw [mj_mx32]; omega)
theorem mj_I_rem {x y : Int} (hx : mj_n32 x) (hy : mj_n32 y) : Int32.ofInt (x.tmod y) = Int32.ofInt x - Int32.ofInt x / Int32.ofInt y * Int32.ofInt y := by
  rw [← mj_I_div hx hy, mj_I_w, ← Int32.ofInt_mul, ← Int32.ofInt_sub]
  congr 1
  have := Int.tmod_add_mul_tdiv x y
  rw [Int.mul_comm] at this
  omega
theorem mj_L_div {x y : Int} (hx : mj_n64 x) (hy : mj_n64 y) : Int64.ofInt (mj_x (x.tdiv y)) = Int64.ofInt x / Int64.ofInt y := by
  rw [mj_L_x]
  unfold mj_n64 at hx hy
  exact Int64.ofInt_tdiv (by rw [mj_mn64]; omega) (by rw [mj_mx64]; omega) (by rw [mj_mn64]; omega) (by rw [mj_mx64]; omega)
theorem mj_L_rem {x y : Int} (hx : mj_n64 x) (hy : mj_n64 y) : Int64.ofInt (x.tmod y) = Int64.ofInt x - Int64.ofInt x / Int64.ofInt y * Int64.ofInt y := by
  rw [← mj_L_div hx hy, mj_L_x, ← Int64.ofInt_mul, ← Int64.ofInt_sub]
  congr 1
  have := Int.tmod_add_mul_tdiv x y
  rw [Int.mul_comm] at this
  omega
theorem mj_I_nat {x : Int} (h : 0 ≤ x) : Int32.ofInt x = nI x.toNat := by
  have : x = (x.toNat : Int) := (Int.toNat_of_nonneg h).symm
  conv => lhs; rw [this]
  exact Int32.ofInt_eq_ofNat
theorem mj_I_N (n : Nat) : Int32.ofInt (n : Int) = nI n := Int32.ofInt_eq_ofNat
theorem mj_I_and (a b : Nat) : nI a &&& nI b = nI (a &&& b) := by
  apply Int32.toBitVec_inj.1
  show BitVec.ofNat 32 a &&& BitVec.ofNat 32 b = BitVec.ofNat 32 (a &&& b)
  apply BitVec.eq_of_getLsbD_eq
  intro i hi
  simp [hi]
theorem mj_I_or (a b : Nat) : nI a ||| nI b = nI (a ||| b) := by
  apply Int32.toBitVec_inj.1
  show BitVec.ofNat 32 a ||| BitVec.ofNat 32 b = BitVec.ofNat 32 (a ||| b)
  apply BitVec.eq_of_getLsbD_eq
  intro i hi
  simp [hi]
theorem mj_I_xor (a b : Nat) : nI a ^^^ nI b = nI (a ^^^ b) := by
  apply Int32.toBitVec_inj.1
  show BitVec.ofNat 32 a ^^^ BitVec.ofNat 32 b = BitVec.ofNat 32 (a ^^^ b)
  apply BitVec.eq_of_getLsbD_eq
  intro i hi
  simp [hi]
theorem mj_I_not (x : Int) : Int32.ofInt x ^^^ Int32.ofInt (-1) = Int32.ofInt (-x - 1) := by
  have h1 : Int32.ofInt x ^^^ Int32.ofInt (-1) = ~~~ Int32.ofInt x := by
    apply Int32.toBitVec_inj.1
    show (Int32.ofInt x).toBitVec ^^^ BitVec.allOnes 32 = ~~~ (Int32.ofInt x).toBitVec
    rw [BitVec.xor_allOnes]
  rw [h1, Int32.not_eq_neg_add, ← Int32.ofInt_neg, Int32.ofInt_sub]
  rfl
theorem mj_lt_31 {x : Int} (h : mj_n32 x) : x.toNat < 2 ^ 31 := by unfold mj_n32 at h; omega
theorem mj_nat_in {n : Nat} (h : n < 2 ^ 31) : mj_n32 (n : Int) := by unfold mj_n32; omega
theorem mj_and_in {x y : Int} (hx : mj_n32 x) : mj_n32 ((x.toNat &&& y.toNat : Nat) : Int) := mj_nat_in (Nat.lt_of_le_of_lt Nat.and_le_left (mj_lt_31 hx))
theorem mj_or_in {x y : Int} (hx : mj_n32 x) (hy : mj_n32 y) : mj_n32 ((x.toNat ||| y.toNat : Nat) : Int) := mj_nat_in (Nat.or_lt_two_pow (mj_lt_31 hx) (mj_lt_31 hy))
theorem mj_xor_in {x y : Int} (hx : mj_n32 x) (hy : mj_n32 y) : mj_n32 ((x.toNat ^^^ y.toNat : Nat) : Int) := mj_nat_in (Nat.xor_lt_two_pow (mj_lt_31 hx) (mj_lt_31 hy))
/-- shifts, by 0 .. 31 -/
theorem mj_sm : ∀ k : Nat, k < 32 → ((nI k &&& 31).toBitVec.smod 32).toNat = k := by decide +kernel
theorem mj_I_shl {x y : Int} (hx : mj_n32 x) (h : 0 ≤ y ∧ y < 32) : Int32.ofInt (mj_w (x * 2 ^ y.toNat)) = Int32.ofInt x <<< (Int32.ofInt y &&& 31) := by
  rw [mj_I_w, mj_I_nat h.1]
  have hk : y.toNat < 32 := by omega
  have e := mj_sm y.toNat hk
  apply Int32.toBitVec_inj.1
  apply BitVec.eq_of_toNat_eq
  rw [pk_shl _ _ _ e]
  rw [Int32.toBitVec_ofInt, Int32.toBitVec_ofInt, BitVec.toNat_ofInt, BitVec.toNat_ofInt]
  have h2 : ((2 ^ y.toNat : Nat) : Int) = (2 : Int) ^ y.toNat := by norm_cast
  rw [← h2]
  generalize (2 ^ y.toNat : Nat) = p
  have h3 : (x * (p : Int)) % ((2 ^ 32 : Nat) : Int) = ((x % ((2 ^ 32 : Nat) : Int)) * (p : Int)) % ((2 ^ 32 : Nat) : Int) := by
    have a1 := Int.mul_emod x (p : Int) ((2 ^ 32 : Nat) : Int)
    have a2 := Int.mul_emod (x % ((2 ^ 32 : Nat) : Int)) (p : Int) ((2 ^ 32 : Nat) : Int)
    rw [Int.emod_emod_of_dvd x (Int.dvd_refl ((2 ^ 32 : Nat) : Int))] at a2
    exact a1.trans a2.symm
  rw [h3]
  have h4 : 0 ≤ x % ((2 ^ 32 : Nat) : Int) := Int.emod_nonneg _ (by decide)
  generalize hz : x % ((2 ^ 32 : Nat) : Int) = z at h4
  obtain ⟨m, rfl⟩ := Int.eq_ofNat_of_zero_le h4
  norm_cast
theorem mj_I_shr {x y : Int} (hx : mj_n32 x) (h : 0 ≤ y ∧ y < 32) : Int32.ofInt (x / 2 ^ y.toNat) = Int32.ofInt x >>> (Int32.ofInt y &&& 31) ∧ mj_n32 (x / 2 ^ y.toNat) := by
  have hk : y.toNat < 32 := by omega
  have e := mj_sm y.toNat hk
  have h2 : ((2 ^ y.toNat : Nat) : Int) = (2 : Int) ^ y.toNat := by norm_cast
  have hp : 0 < 2 ^ y.toNat := Nat.two_pow_pos _
  have hr : mj_n32 (x / 2 ^ y.toNat) := by
    rw [← h2]
    generalize (2 ^ y.toNat : Nat) = p at hp
    unfold mj_n32 at hx ⊢
    have hp2 : (0 : Int) < (p : Int) := by omega
    constructor
    · rcases Int.lt_or_le x 0 with q | q
      · have := Int.ediv_le_ediv hp2 (show -2147483648 ≤ x from hx.1)
        have h5 : (-2147483648 : Int) ≤ -2147483648 / (p : Int) := by
          refine (Int.le_ediv_iff_mul_le hp2).mpr ?_
          omega
        omega
      · have := Int.ediv_nonneg q (Int.le_of_lt hp2)
        omega
    · rcases Int.lt_or_le x 0 with q | q
      · have := Int.ediv_lt_of_lt_mul hp2 (show x < 1 * (p : Int) by omega)
        omega
      · have := Int.ediv_le_self (p : Int) q
        omega
  refine ⟨?_, hr⟩
  apply Int32.toInt_inj.1
  rw [mj_tI hr, mj_I_nat h.1, pk_shr _ _ _ e, mj_tI hx, Int.shiftRight_eq_div_pow]
  norm_cast
theorem mj_clN {x : Int} (hx : mj_n32 x) : (Int32.ofInt x).toNatClampNeg = x.toNat := by
  show (Int32.ofInt x).toInt.toNat = _
  rw [mj_tI hx]
theorem mj_vin {x : Int} {n : Nat} (hx : mj_n32 x) (h : 0 ≤ x ∧ x < (n : Int)) : vp_in (Int32.ofInt x) n := by
  rw [vp_in_iff, mj_tI hx]
  exact h
theorem mj_i2b {x : Int} : (Int32.ofInt x).toInt8.toInt32 = Int32.ofInt ((x + 128) % 256 - 128) ∧ mj_n32 ((x + 128) % 256 - 128) := by
  have hr : mj_n32 ((x + 128) % 256 - 128) := by unfold mj_n32; omega
  refine ⟨?_, hr⟩
  apply Int32.toInt_inj.1
  rw [mj_tI hr, Int32.toInt8_ofInt, Int8.toInt_toInt32, Int8.toInt_ofInt]
  show x.bmod 256 = _
  rw [Int.bmod_def]
  omega
theorem mj_i2s {x : Int} : (Int32.ofInt x).toInt16.toInt32 = Int32.ofInt ((x + 32768) % 65536 - 32768) ∧ mj_n32 ((x + 32768) % 65536 - 32768) := by
  have hr : mj_n32 ((x + 32768) % 65536 - 32768) := by unfold mj_n32; omega
  refine ⟨?_, hr⟩
  apply Int32.toInt_inj.1
  rw [mj_tI hr, Int32.toInt16_ofInt, Int16.toInt_toInt32, Int16.toInt_ofInt]
  show x.bmod 65536 = _
  rw [Int.bmod_def]
  omega
theorem mj_i2l {x : Int} (hx : mj_n32 x) : (Int32.ofInt x).toInt64 = Int64.ofInt x := by
  unfold mj_n32 at hx
  exact Int32.toInt64_ofInt (by rw [mj_mn32]; omega) (by rw [mj_mx32]; omega)
theorem mj_l2i {x : Int} : (Int64.ofInt x).toInt32 = Int32.ofInt (mj_w x) := by
  rw [mj_I_w, Int64.toInt32_ofInt]
theorem mj_lcmp {x y : Int} (hx : mj_n64 x) (hy : mj_n64 y) : lg_cmp (Int64.ofInt x) (Int64.ofInt y) = Int32.ofInt (if x < y then -1 else if x = y then 0 else 1) := by
  unfold lg_cmp
  show (if Int64.ofInt y < Int64.ofInt x then _ else _) = _
  have h1 := mj_L_lt hy hx
  have h2 := mj_L_inj hx hy
  by_cases a : x < y
  · rw [if_neg (fun q => by have := h1.mp q; omega), if_neg (fun q => by have := h2.mp q; omega), if_pos a]
    rfl
  · rw [if_neg a]
    by_cases b : x = y
    · rw [if_neg (fun q => by have := h1.mp q; omega), if_pos (h2.mpr b), if_pos b]
      rfl
    · rw [if_pos (h1.mpr (by omega)), if_neg b]
      rfl
