/-! A SMALL MACHINE: ints and longs as Int, references as (sort, instance), memory by sort, instance and place; blocks of instructions; what a block gives, by what its jumps (K) and its calls (C) give. -/
abbrev mj_V : Type := Int ⊕ (Int ⊕ (Nat × Nat))
abbrev mj_L : Type := List (Option mj_V)
abbrev mj_M : Type := Nat → Nat → Nat → Int
abbrev mj_R : Type := Option (Option mj_V × mj_M)
abbrev mj_I : Type := Nat × Instr × Nat × Nat × Nat × List (Int × Nat)
def mj_w (z : Int) : Int := (z + 2147483648) % 4294967296 - 2147483648
def mj_x (z : Int) : Int := (z + 9223372036854775808) % 18446744073709551616 - 9223372036854775808
def mj_nth {α : Type} : List α → Nat → Option α
  | [], _ => none
  | a :: _, 0 => some a
  | _ :: l, n + 1 => mj_nth l n
def mj_set {α : Type} : List α → Nat → α → List α
  | [], _, _ => []
  | _ :: l, 0, x => x :: l
  | a :: l, n + 1, x => a :: mj_set l n x
def mj_up (μ : mj_M) (s i k : Nat) (x : Int) : mj_M := fun s' i' k' => if s' = s ∧ k' = k ∧ i' = i then x else μ s' i' k'
def mj_cpy (μ : mj_M) (s i p s' i' p' n : Nat) : mj_M := fun a b k => if a = s' ∧ b = i' ∧ p' ≤ k ∧ k < p' + n then μ s i (p + (k - p')) else μ a b k
/-- stores: the slot ahead holds no long -/
def mj_sto (ls : mj_L) (a : Nat) (v : mj_V) (κ : mj_L → mj_R) : mj_R := match a with
  | 0 => κ (mj_set ls 0 (some v))
  | j + 1 => match mj_nth ls j with
    | some (some (.inr (.inl _))) => none
    | _ => κ (mj_set ls (j + 1) (some v))
def mj_stl (ls : mj_L) (a : Nat) (v : Int) (κ : mj_L → mj_R) : mj_R := mj_sto ls a (.inr (.inl v)) (fun ls' => κ (mj_set ls' (a + 1) none))
def mj_ldi (ls : mj_L) (a : Nat) (κ : Int → mj_R) : mj_R := match mj_nth ls a with
  | some (some (.inl x)) => κ x
  | _ => none
def mj_ldl (ls : mj_L) (a : Nat) (κ : Int → mj_R) : mj_R := match mj_nth ls a with
  | some (some (.inr (.inl x))) => κ x
  | _ => none
def mj_lda (ls : mj_L) (a : Nat) (κ : Nat → Nat → mj_R) : mj_R := match mj_nth ls a with
  | some (some (.inr (.inr (s, i)))) => κ s i
  | _ => none
def mj_p1 (st : List mj_V) (κ : Int → List mj_V → mj_R) : mj_R := match st with
  | .inl x :: r => κ x r
  | _ => none
def mj_p2 (st : List mj_V) (κ : Int → Int → List mj_V → mj_R) : mj_R := match st with
  | .inl y :: .inl x :: r => κ x y r
  | _ => none
def mj_q1 (st : List mj_V) (κ : Int → List mj_V → mj_R) : mj_R := match st with
  | .inr (.inl x) :: r => κ x r
  | _ => none
def mj_q2 (st : List mj_V) (κ : Int → Int → List mj_V → mj_R) : mj_R := match st with
  | .inr (.inl y) :: .inr (.inl x) :: r => κ x y r
  | _ => none
def mj_a1 (st : List mj_V) (κ : Nat → Nat → List mj_V → mj_R) : mj_R := match st with
  | .inr (.inr (s, i)) :: r => κ s i r
  | _ => none
/-- an index and an array -/
def mj_a2 (st : List mj_V) (κ : Int → Nat → Nat → List mj_V → mj_R) : mj_R := match st with
  | .inl j :: .inr (.inr (s, i)) :: r => κ j s i r
  | _ => none
def mj_bi (ins : Instr) (x y : Int) (κ : Int → mj_R) : mj_R := match ins with
  | .iadd => κ (mj_w (x + y))
  | .isub => κ (mj_w (x - y))
  | .imul => κ (mj_w (x * y))
  | .idiv => if y = 0 then none else κ (mj_w (x.tdiv y))
  | .irem => if y = 0 then none else κ (x.tmod y)
  | .iand => if 0 ≤ x ∧ 0 ≤ y then κ ((x.toNat &&& y.toNat : Nat) : Int) else none
  | .ior => if 0 ≤ x ∧ 0 ≤ y then κ ((x.toNat ||| y.toNat : Nat) : Int) else none
  | .ixor => if y = -1 then κ (-x - 1) else none
  | .ishl => if 0 ≤ y ∧ y < 32 then κ (mj_w (x * 2 ^ y.toNat)) else none
  | .ishr => if 0 ≤ y ∧ y < 32 then κ (x / 2 ^ y.toNat) else none
  | _ => none
def mj_bl (ins : Instr) (x y : Int) (κ : Int → mj_R) : mj_R := match ins with
  | .ladd => κ (mj_x (x + y))
  | .lsub => κ (mj_x (x - y))
  | .lmul => κ (mj_x (x * y))
  | .ldiv => if y = 0 then none else κ (mj_x (x.tdiv y))
  | .lrem => if y = 0 then none else κ (x.tmod y)
  | _ => none
def mj_ifc (c : Jvm.ClassFile.Cond) (x y : Int) (A B : mj_R) : mj_R := match c with
  | .eq => if x = y then A else B
  | .ne => if x = y then B else A
  | .lt => if x < y then A else B
  | .ge => if x < y then B else A
  | .gt => if y < x then A else B
  | .le => if y < x then B else A
def mj_swk (K : Nat → mj_R) (dflt : Nat) (x : Int) : List (Int × Nat) → mj_R
  | [] => K dflt
  | (v, l) :: r => if x = v then K l else mj_swk K dflt x r
def mj_cat : List mj_V → Nat
  | [] => 0
  | .inr (.inl _) :: r => mj_cat r + 2
  | _ :: r => mj_cat r + 1
def mj_pop : Nat → List mj_V → List mj_V → (List mj_V → List mj_V → mj_R) → mj_R
  | 0, st, acc, κ => κ acc st
  | n + 1, v :: st, acc, κ => mj_pop n st (v :: acc) κ
  | _ + 1, [], _, _ => none
def mj_rV (r : mj_R) (κ : mj_M → mj_R) : mj_R := match r with
  | some (none, μ) => κ μ
  | _ => none
def mj_rI (r : mj_R) (κ : Int → mj_M → mj_R) : mj_R := match r with
  | some (some (.inl x), μ) => κ x μ
  | _ => none
def mj_rL (r : mj_R) (κ : Int → mj_M → mj_R) : mj_R := match r with
  | some (some (.inr (.inl x)), μ) => κ x μ
  | _ => none
/-- the entry's locals -/
def mj_pl : List mj_V → mj_L
  | [] => []
  | .inr (.inl x) :: r => some (.inr (.inl x)) :: none :: mj_pl r
  | v :: r => some v :: mj_pl r
def mj_pad : Nat → mj_L → mj_L
  | 0, _ => []
  | n + 1, [] => none :: mj_pad n []
  | n + 1, v :: l => v :: mj_pad n l
def mj_keep : List Bool → mj_L → mj_L
  | true :: bs, v :: l => v :: mj_keep bs l
  | false :: bs, _ :: l => none :: mj_keep bs l
  | _, _ => []
/-! THE LAYOUT of the two systems' cells: by sort: (kind, info, how many, slots); kind 0: an object, info its class, slots: none a number, (t, o) the reference to sort t, instance + o; 1: ints, info the length; 2: longs; 3: references to sort t, info the length; 4: a text constant, 5: a static table of ints, info its number in mk_TB -/
abbrev mj_S : Type := Nat × Nat × Nat × List (Option (Nat × Nat))
section MJ
variable (LY : List mj_S) (TB : List (List Int)) (CS : List Int)
def mj_srt (s : Nat) : mj_S := match mj_nth LY s with
  | some q => q
  | none => (9, 0, 0, [])
def mj_gf (a b s i : Nat) (st : List mj_V) (μ : mj_M) (κ : List mj_V → mj_R) : mj_R := match mj_srt LY s with
  | (0, ci, _, sl) => match Nat.beq ci b with
    | true => match mj_nth sl a with
      | some none => κ (.inl (μ s i a) :: st)
      | some (some (t, o)) => κ (.inr (.inr (t, i + o)) :: st)
      | none => none
    | false => none
  | _ => none
/-- k = 1: a boolean field -/
def mj_pf (a b k s i : Nat) (x : Int) (μ : mj_M) (κ : mj_M → mj_R) : mj_R := match mj_srt LY s with
  | (0, ci, _, sl) => match Nat.beq ci b with
    | true => match mj_nth sl a with
      | some none => match k with
        | 0 => κ (mj_up μ s i a x)
        | _ + 1 => if x = 0 ∨ x = 1 then κ (mj_up μ s i a x) else none
      | _ => none
    | false => none
  | _ => none
def mj_tb4 (n : Nat) (j : Int) (κ : Int → mj_R) : mj_R := match mj_nth TB n with
  | some l => match mj_nth l j.toNat with
    | some x => if 0 ≤ j then κ x else none
    | none => none
  | none => none
def mj_ial (j : Int) (s i : Nat) (μ : mj_M) (κ : Int → mj_R) : mj_R := match mj_srt LY s with
  | (1, n, _, _) => if 0 ≤ j ∧ j < (n : Int) then κ (μ s i j.toNat) else none
  | (5, n, _, _) => mj_tb4 TB n j κ
  | _ => none
def mj_lal (j : Int) (s i : Nat) (μ : mj_M) (κ : Int → mj_R) : mj_R := match mj_srt LY s with
  | (2, n, _, _) => if 0 ≤ j ∧ j < (n : Int) then κ (μ s i j.toNat) else none
  | _ => none
def mj_ias (x j : Int) (s i : Nat) (μ : mj_M) (κ : mj_M → mj_R) : mj_R := match mj_srt LY s with
  | (1, n, _, _) => if 0 ≤ j ∧ j < (n : Int) then κ (mj_up μ s i j.toNat x) else none
  | _ => none
def mj_las (x j : Int) (s i : Nat) (μ : mj_M) (κ : mj_M → mj_R) : mj_R := match mj_srt LY s with
  | (2, n, _, _) => if 0 ≤ j ∧ j < (n : Int) then κ (mj_up μ s i j.toNat x) else none
  | _ => none
def mj_aal (j : Int) (s : Nat) (κ : Nat → Nat → mj_R) : mj_R := match mj_srt LY s with
  | (3, n, _, [some (t, o)]) => if 0 ≤ j ∧ j < (n : Int) then κ t (j.toNat + o) else none
  | _ => none
def mj_acp (st : List mj_V) (μ : mj_M) (κ : List mj_V → mj_M → mj_R) : mj_R := match st with
  | .inl n :: .inl q :: .inr (.inr (s', i')) :: .inl p :: .inr (.inr (s, i)) :: r => match mj_srt LY s, mj_srt LY s' with
    | (1, m, _, _), (1, m', _, _) => if 0 ≤ n ∧ 0 ≤ p ∧ 0 ≤ q ∧ p + n ≤ (m : Int) ∧ q + n ≤ (m' : Int) then κ r (mj_cpy μ s i p.toNat s' i' q.toNat n.toNat) else none
    | _, _ => none
  | _ => none
/-- a call: k = 0, 1, 2: of a method that gives nothing, an int, a long; 5 the greater of two, 6 a copy, 7 a text's sign -/
def mj_cl (C : Nat → List mj_V → mj_M → mj_R) (a b k : Nat) (st : List mj_V) (μ : mj_M) (κ : List mj_V → mj_M → mj_R) : mj_R := match k with
  | 0 => mj_pop b st [] fun as st' => match Nat.ble (mj_cat st') 8 with
    | true => mj_rV (C a as μ) (fun μ' => κ st' μ')
    | false => none
  | 1 => mj_pop b st [] fun as st' => match Nat.ble (mj_cat st') 8 with
    | true => mj_rI (C a as μ) (fun x μ' => κ (.inl x :: st') μ')
    | false => none
  | 2 => mj_pop b st [] fun as st' => match Nat.ble (mj_cat st') 8 with
    | true => mj_rL (C a as μ) (fun x μ' => κ (.inr (.inl x) :: st') μ')
    | false => none
  | 5 => mj_p2 st fun x y st' => match Nat.ble (mj_cat st') 8 with
    | true => κ (.inl (if x < y then y else x) :: st') μ
    | false => none
  | 6 => mj_acp LY st μ (fun st' μ' => match Nat.ble (mj_cat st') 8 with
    | true => κ st' μ'
    | false => none)
  | 7 => mj_a2 st fun j s i st' => match Nat.ble (mj_cat st') 8 with
    | true => match mj_srt LY s with
      | (4, n, _, _) => mj_tb4 TB n j fun x => κ (.inl x :: st') μ
      | _ => none
    | false => none
  | _ => none
/-- the steps that neither jump nor call -/
def mj_ps (ins : Instr) (a b k : Nat) (ls : mj_L) (st : List mj_V) (μ : mj_M) (κ : mj_L → List mj_V → mj_M → mj_R) : mj_R := match ins with
  | .iconst n => κ ls (.inl n :: st) μ
  | .bipush n => κ ls (.inl n :: st) μ
  | .sipush n => κ ls (.inl n :: st) μ
  | .lconst n => κ ls (.inr (.inl (n.val : Int)) :: st) μ
  | .iload _ => mj_ldi ls a fun x => κ ls (.inl x :: st) μ
  | .iload_n _ => mj_ldi ls a fun x => κ ls (.inl x :: st) μ
  | .lload _ => mj_ldl ls a fun x => κ ls (.inr (.inl x) :: st) μ
  | .lload_n _ => mj_ldl ls a fun x => κ ls (.inr (.inl x) :: st) μ
  | .aload _ => mj_lda ls a fun s i => κ ls (.inr (.inr (s, i)) :: st) μ
  | .aload_n _ => mj_lda ls a fun s i => κ ls (.inr (.inr (s, i)) :: st) μ
  | .istore _ => mj_p1 st fun x r => mj_sto ls a (.inl x) fun ls' => κ ls' r μ
  | .istore_n _ => mj_p1 st fun x r => mj_sto ls a (.inl x) fun ls' => κ ls' r μ
  | .lstore _ => mj_q1 st fun x r => mj_stl ls a x fun ls' => κ ls' r μ
  | .lstore_n _ => mj_q1 st fun x r => mj_stl ls a x fun ls' => κ ls' r μ
  | .astore _ => mj_a1 st fun s i r => mj_sto ls a (.inr (.inr (s, i))) fun ls' => κ ls' r μ
  | .astore_n _ => mj_a1 st fun s i r => mj_sto ls a (.inr (.inr (s, i))) fun ls' => κ ls' r μ
  | .iinc _ n => mj_ldi ls a fun x => mj_sto ls a (.inl (mj_w (x + n))) fun ls' => κ ls' st μ
  | .iadd => mj_p2 st fun x y r => mj_bi ins x y fun z => κ ls (.inl z :: r) μ
  | .isub => mj_p2 st fun x y r => mj_bi ins x y fun z => κ ls (.inl z :: r) μ
  | .imul => mj_p2 st fun x y r => mj_bi ins x y fun z => κ ls (.inl z :: r) μ
  | .idiv => mj_p2 st fun x y r => mj_bi ins x y fun z => κ ls (.inl z :: r) μ
  | .irem => mj_p2 st fun x y r => mj_bi ins x y fun z => κ ls (.inl z :: r) μ
  | .iand => mj_p2 st fun x y r => mj_bi ins x y fun z => κ ls (.inl z :: r) μ
  | .ior => mj_p2 st fun x y r => mj_bi ins x y fun z => κ ls (.inl z :: r) μ
  | .ixor => mj_p2 st fun x y r => mj_bi ins x y fun z => κ ls (.inl z :: r) μ
  | .ishl => mj_p2 st fun x y r => mj_bi ins x y fun z => κ ls (.inl z :: r) μ
  | .ishr => mj_p2 st fun x y r => mj_bi ins x y fun z => κ ls (.inl z :: r) μ
  | .ladd => mj_q2 st fun x y r => mj_bl ins x y fun z => κ ls (.inr (.inl z) :: r) μ
  | .lsub => mj_q2 st fun x y r => mj_bl ins x y fun z => κ ls (.inr (.inl z) :: r) μ
  | .lmul => mj_q2 st fun x y r => mj_bl ins x y fun z => κ ls (.inr (.inl z) :: r) μ
  | .ldiv => mj_q2 st fun x y r => mj_bl ins x y fun z => κ ls (.inr (.inl z) :: r) μ
  | .lrem => mj_q2 st fun x y r => mj_bl ins x y fun z => κ ls (.inr (.inl z) :: r) μ
  | .lcmp => mj_q2 st fun x y r => if x < y then κ ls (.inl (-1) :: r) μ else if x = y then κ ls (.inl 0 :: r) μ else κ ls (.inl 1 :: r) μ
  | .ineg => mj_p1 st fun x r => κ ls (.inl (mj_w (-x)) :: r) μ
  | .i2l => mj_p1 st fun x r => κ ls (.inr (.inl x) :: r) μ
  | .l2i => mj_q1 st fun x r => κ ls (.inl (mj_w x) :: r) μ
  | .i2b => mj_p1 st fun x r => κ ls (.inl ((x + 128) % 256 - 128) :: r) μ
  | .i2s => mj_p1 st fun x r => κ ls (.inl ((x + 32768) % 65536 - 32768) :: r) μ
  | .dup => match st with
    | .inl x :: r => κ ls (.inl x :: .inl x :: r) μ
    | .inr (.inr q) :: r => κ ls (.inr (.inr q) :: .inr (.inr q) :: r) μ
    | _ => none
  | .dup2 => mj_a2 st fun j s i r => κ ls (.inl j :: .inr (.inr (s, i)) :: .inl j :: .inr (.inr (s, i)) :: r) μ
  | .pop => mj_p1 st fun _ r => κ ls r μ
  | .ldc _ => match k with
    | 0 => match mj_nth CS a with
      | some x => κ ls (.inl x :: st) μ
      | none => none
    | _ + 1 => κ ls (.inr (.inr (a, 0)) :: st) μ
  | .ldc_w _ => match mj_nth CS a with
    | some x => κ ls (.inl x :: st) μ
    | none => none
  | .ldc2_w _ => match mj_nth CS a with
    | some x => κ ls (.inr (.inl x) :: st) μ
    | none => none
  | .getstatic _ => κ ls (.inr (.inr (a, 0)) :: st) μ
  | .getfield _ => mj_a1 st fun s i r => mj_gf LY a b s i r μ fun st' => κ ls st' μ
  | .putfield _ => match st with
    | .inl x :: .inr (.inr (s, i)) :: r => mj_pf LY a b k s i x μ fun μ' => κ ls r μ'
    | _ => none
  | .iaload => mj_a2 st fun j s i r => mj_ial LY TB j s i μ fun x => κ ls (.inl x :: r) μ
  | .laload => mj_a2 st fun j s i r => mj_lal LY j s i μ fun x => κ ls (.inr (.inl x) :: r) μ
  | .aaload => mj_a2 st fun j s _ r => mj_aal LY j s fun t o => κ ls (.inr (.inr (t, o)) :: r) μ
  | .iastore => match st with
    | .inl x :: .inl j :: .inr (.inr (s, i)) :: r => mj_ias LY x j s i μ fun μ' => κ ls r μ'
    | _ => none
  | .lastore => match st with
    | .inr (.inl x) :: .inl j :: .inr (.inr (s, i)) :: r => mj_las LY x j s i μ fun μ' => κ ls r μ'
    | _ => none
  | _ => none
def mj_ri (k : Nat) (st : List mj_V) (μ : mj_M) : mj_R := match st with
  | [.inl x] => match k with
    | 0 => some (some (.inl x), μ)
    | _ + 1 => if x = 0 ∨ x = 1 then some (some (.inl x), μ) else none
  | _ => none
def mj_rl (st : List mj_V) (μ : mj_M) : mj_R := match st with
  | [.inr (.inl x)] => some (some (.inr (.inl x)), μ)
  | _ => none
def mj_rv (st : List mj_V) (μ : mj_M) : mj_R := match st with
  | [] => some (none, μ)
  | _ => none
def mj_blk (K : Nat → mj_L → List mj_V → mj_M → mj_R) (C : Nat → List mj_V → mj_M → mj_R) : List mj_I → mj_L → List mj_V → mj_M → mj_R
  | [], _, _, _ => none
  | (_, ins, a, b, k, sw) :: is, ls, st, μ => match ins with
    | .nop => K a ls st μ
    | .goto _ => K a ls st μ
    | .ifCond c _ => mj_p1 st fun x r => mj_ifc c x 0 (K a ls r μ) (mj_blk K C is ls r μ)
    | .if_icmp c _ => mj_p2 st fun x y r => mj_ifc c x y (K a ls r μ) (mj_blk K C is ls r μ)
    | .tableswitch _ _ _ _ => mj_p1 st fun x r => mj_swk (fun l => K l ls r μ) a x sw
    | .lookupswitch _ _ => mj_p1 st fun x r => mj_swk (fun l => K l ls r μ) a x sw
    | .ireturn => mj_ri k st μ
    | .lreturn => mj_rl st μ
    | .return_ => mj_rv st μ
    | .invokevirtual _ => mj_cl LY TB C a b k st μ fun st' μ' => mj_blk K C is ls st' μ'
    | .invokestatic _ => mj_cl LY TB C a b k st μ fun st' μ' => mj_blk K C is ls st' μ'
    | _ => mj_ps LY TB CS ins a b k ls st μ fun ls' st' μ' => mj_blk K C is ls' st' μ'
end MJ
