section
/-! A SMALL MACHINE: ints and longs as Int, references as (sort, instance), memory by sort, instance and place; blocks of instructions; what a block gives, by what its jumps (K) and its calls (C) give. -/
abbrev mj_V : Type := Int ⊕ (Int ⊕ (Nat × Nat))
abbrev mj_L : Type := List (Option mj_V)
abbrev mj_M : Type := Nat → Nat → Nat → Int
abbrev mj_R : Type := Option (Option mj_V × mj_M)
abbrev mj_I : Type := Nat × Instr × Nat × Nat × Nat × List (Int × Nat)
def mj_w (z : Int) : Int := (z + 2147483648) % 4294967296 - 2147483648
def mj_x (z : Int) : Int := (z + 9223372036854775808) % 18446744073709551616 - 9223372036854775808
def mj_nth {α : Type} : List α → Nat → Option α
  | [], _ => none
  | a :: _, 0 => some a
  | _ :: l, n + 1 => mj_nth l n
def mj_set {α : Type} : List α → Nat → α → List α
  | [], _, _ => []
  | _ :: l, 0, x => x :: l
  | a :: l, n + 1, x => a :: mj_set l n x
def mj_up (μ : mj_M) (s i k : Nat) (x : Int) : mj_M := fun s' i' k' => if s' = s ∧ k' = k ∧ i' = i then x else μ s' i' k'
def mj_cpy (μ : mj_M) (s i p s' i' p' n : Nat) : mj_M := fun a b k => if a = s' ∧ b = i' ∧ p' ≤ k ∧ k < p' + n then μ s i (p + (k - p')) else μ a b k
/-- stores: the slot ahead holds no long -/
def mj_sto (ls : mj_L) (a : Nat) (v : mj_V) (κ : mj_L → mj_R) : mj_R := match a with
  | 0 => κ (mj_set ls 0 (some v))
  | j + 1 => match mj_nth ls j with
    | some (some (.inr (.inl _))) => none
    | _ => κ (mj_set ls (j + 1) (some v))
def mj_stl (ls : mj_L) (a : Nat) (v : Int) (κ : mj_L → mj_R) : mj_R := mj_sto ls a (.inr (.inl v)) (fun ls' => κ (mj_set ls' (a + 1) none))
def mj_ldi (ls : mj_L) (a : Nat) (κ : Int → mj_R) : mj_R := match mj_nth ls a with
  | some (some (.inl x)) => κ x
  | _ => none
def mj_ldl (ls : mj_L) (a : Nat) (κ : Int → mj_R) : mj_R := match mj_nth ls a with
  | some (some (.inr (.inl x))) => κ x
  | _ => none
def mj_lda (ls : mj_L) (a : Nat) (κ : Nat → Nat → mj_R) : mj_R := match mj_nth ls a with
  | some (some (.inr (.inr (s, i)))) => κ s i
  | _ => none
def mj_p1 (st : List mj_V) (κ : Int → List mj_V → mj_R) : mj_R := match st with
  | .inl x :: r => κ x r
  | _ => none
def mj_p2 (st : List mj_V) (κ : Int → Int → List mj_V → mj_R) : mj_R := match st with
  | .inl y :: .inl x :: r => κ x y r
  | _ => none
def mj_q1 (st : List mj_V) (κ : Int → List mj_V → mj_R) : mj_R := match st with
  | .inr (.inl x) :: r => κ x r
  | _ => none
def mj_q2 (st : List mj_V) (κ : Int → Int → List mj_V → mj_R) : mj_R := match st with
  | .inr (.inl y) :: .inr (.inl x) :: r => κ x y r
  | _ => none
def mj_a1 (st : List mj_V) (κ : Nat → Nat → List mj_V → mj_R) : mj_R := match st with
  | .inr (.inr (s, i)) :: r => κ s i r
  | _ => none
/-- an index and an array -/
def mj_a2 (st : List mj_V) (κ : Int → Nat → Nat → List mj_V → mj_R) : mj_R := match st with
  | .inl j :: .inr (.inr (s, i)) :: r => κ j s i r
  | _ => none
def mj_bi (ins : Instr) (x y : Int) (κ : Int → mj_R) : mj_R := match ins with
  | .iadd => κ (mj_w (x + y))
  | .isub => κ (mj_w (x - y))
  | .imul => κ (mj_w (x * y))
  | .idiv => if y = 0 then none else κ (mj_w (x.tdiv y))
  | .irem => if y = 0 then none else κ (x.tmod y)
  | .iand => if 0 ≤ x ∧ 0 ≤ y then κ ((x.toNat &&& y.toNat : Nat) : Int) else none
  | .ior => if 0 ≤ x ∧ 0 ≤ y then κ ((x.toNat ||| y.toNat : Nat) : Int) else none
  | .ixor => if 0 ≤ x ∧ 0 ≤ y then κ ((x.toNat ^^^ y.toNat : Nat) : Int) else none
  | .ishl => if 0 ≤ y ∧ y < 32 then κ (mj_w (x * 2 ^ y.toNat)) else none
  | .ishr => if 0 ≤ y ∧ y < 32 then κ (x / 2 ^ y.toNat) else none
  | _ => none
def mj_bl (ins : Instr) (x y : Int) (κ : Int → mj_R) : mj_R := match ins with
  | .ladd => κ (mj_x (x + y))
  | .lsub => κ (mj_x (x - y))
  | .lmul => κ (mj_x (x * y))
  | .ldiv => if y = 0 then none else κ (mj_x (x.tdiv y))
  | .lrem => if y = 0 then none else κ (x.tmod y)
  | _ => none
def mj_ifc (c : Jvm.ClassFile.Cond) (x y : Int) (A B : mj_R) : mj_R := match c with
  | .eq => if x = y then A else B
  | .ne => if x = y then B else A
  | .lt => if x < y then A else B
  | .ge => if x < y then B else A
  | .gt => if y < x then A else B
  | .le => if y < x then B else A
def mj_swk (K : Nat → mj_R) (dflt : Nat) (x : Int) : List (Int × Nat) → mj_R
  | [] => K dflt
  | (v, l) :: r => if x = v then K l else mj_swk K dflt x r
def mj_cat : List mj_V → Nat
  | [] => 0
  | .inr (.inl _) :: r => mj_cat r + 2
  | _ :: r => mj_cat r + 1
def mj_pop : Nat → List mj_V → List mj_V → (List mj_V → List mj_V → mj_R) → mj_R
  | 0, st, acc, κ => κ acc st
  | n + 1, v :: st, acc, κ => mj_pop n st (v :: acc) κ
  | _ + 1, [], _, _ => none
def mj_rV (r : mj_R) (κ : mj_M → mj_R) : mj_R := match r with
  | some (none, μ) => κ μ
  | _ => none
def mj_rI (r : mj_R) (κ : Int → mj_M → mj_R) : mj_R := match r with
  | some (some (.inl x), μ) => κ x μ
  | _ => none
def mj_rL (r : mj_R) (κ : Int → mj_M → mj_R) : mj_R := match r with
  | some (some (.inr (.inl x)), μ) => κ x μ
  | _ => none
/-- the entry's locals -/
def mj_pl : List mj_V → mj_L
  | [] => []
  | .inr (.inl x) :: r => some (.inr (.inl x)) :: none :: mj_pl r
  | v :: r => some v :: mj_pl r
def mj_pad : Nat → mj_L → mj_L
  | 0, _ => []
  | n + 1, [] => none :: mj_pad n []
  | n + 1, v :: l => v :: mj_pad n l
def mj_keep : List Bool → mj_L → mj_L
  | true :: bs, v :: l => v :: mj_keep bs l
  | false :: bs, _ :: l => none :: mj_keep bs l
  | _, _ => []
/-! THE LAYOUT of the two systems' cells: by sort: (kind, info, how many, slots); kind 0: an object, info its class, slots: none a number, (t, o) the reference to sort t, instance + o; 1: ints, info the length; 2: longs; 3: references to sort t, info the length; 4: a text constant or a static table, info its number in mj_tab -/
abbrev mj_S : Type := Nat × Nat × Nat × List (Option (Nat × Nat))
section MJ
variable (LY : List mj_S) (TB : List (List Int)) (CS : List Int)
def mj_srt (s : Nat) : mj_S := match mj_nth LY s with
  | some q => q
  | none => (9, 0, 0, [])
def mj_gf (a b s i : Nat) (st : List mj_V) (μ : mj_M) (κ : List mj_V → mj_R) : mj_R := match mj_srt LY s with
  | (0, ci, _, sl) => match Nat.beq ci b with
    | true => match mj_nth sl a with
      | some none => κ (.inl (μ s i a) :: st)
      | some (some (t, o)) => κ (.inr (.inr (t, i + o)) :: st)
      | none => none
    | false => none
  | _ => none
/-- k = 1: a boolean field -/
def mj_pf (a b k s i : Nat) (x : Int) (μ : mj_M) (κ : mj_M → mj_R) : mj_R := match mj_srt LY s with
  | (0, ci, _, sl) => match Nat.beq ci b with
    | true => match mj_nth sl a with
      | some none => match k with
        | 0 => κ (mj_up μ s i a x)
        | _ + 1 => if x = 0 ∨ x = 1 then κ (mj_up μ s i a x) else none
      | _ => none
    | false => none
  | _ => none
def mj_tb4 (n : Nat) (j : Int) (κ : Int → mj_R) : mj_R := match mj_nth TB n with
  | some l => match mj_nth l j.toNat with
    | some x => if 0 ≤ j then κ x else none
    | none => none
  | none => none
def mj_ial (j : Int) (s i : Nat) (μ : mj_M) (κ : Int → mj_R) : mj_R := match mj_srt LY s with
  | (1, n, _, _) => if 0 ≤ j ∧ j < (n : Int) then κ (μ s i j.toNat) else none
  | (4, n, _, _) => mj_tb4 TB n j κ
  | _ => none
def mj_lal (j : Int) (s i : Nat) (μ : mj_M) (κ : Int → mj_R) : mj_R := match mj_srt LY s with
  | (2, n, _, _) => if 0 ≤ j ∧ j < (n : Int) then κ (μ s i j.toNat) else none
  | _ => none
def mj_ias (x j : Int) (s i : Nat) (μ : mj_M) (κ : mj_M → mj_R) : mj_R := match mj_srt LY s with
  | (1, n, _, _) => if 0 ≤ j ∧ j < (n : Int) then κ (mj_up μ s i j.toNat x) else none
  | _ => none
def mj_las (x j : Int) (s i : Nat) (μ : mj_M) (κ : mj_M → mj_R) : mj_R := match mj_srt LY s with
  | (2, n, _, _) => if 0 ≤ j ∧ j < (n : Int) then κ (mj_up μ s i j.toNat x) else none
  | _ => none
def mj_aal (j : Int) (s : Nat) (κ : Nat → Nat → mj_R) : mj_R := match mj_srt LY s with
  | (3, n, _, [some (t, o)]) => if 0 ≤ j ∧ j < (n : Int) then κ t (j.toNat + o) else none
  | _ => none
def mj_acp (st : List mj_V) (μ : mj_M) (κ : List mj_V → mj_M → mj_R) : mj_R := match st with
  | .inl n :: .inl q :: .inr (.inr (s', i')) :: .inl p :: .inr (.inr (s, i)) :: r => match mj_srt LY s, mj_srt LY s' with
    | (1, m, _, _), (1, m', _, _) => if 0 ≤ n ∧ 0 ≤ p ∧ 0 ≤ q ∧ p + n ≤ (m : Int) ∧ q + n ≤ (m' : Int) then κ r (mj_cpy μ s i p.toNat s' i' q.toNat n.toNat) else none
    | _, _ => none
  | _ => none
/-- a call: k = 0, 1, 2: of a method that gives nothing, an int, a long; 5 the greater of two, 6 a copy, 7 a text's sign -/
def mj_cl (C : Nat → List mj_V → mj_M → mj_R) (a b k : Nat) (st : List mj_V) (μ : mj_M) (κ : List mj_V → mj_M → mj_R) : mj_R := match k with
  | 0 => mj_pop b st [] fun as st' => match Nat.ble (mj_cat st') 8 with
    | true => mj_rV (C a as μ) (fun μ' => κ st' μ')
    | false => none
  | 1 => mj_pop b st [] fun as st' => match Nat.ble (mj_cat st') 8 with
    | true => mj_rI (C a as μ) (fun x μ' => κ (.inl x :: st') μ')
    | false => none
  | 2 => mj_pop b st [] fun as st' => match Nat.ble (mj_cat st') 8 with
    | true => mj_rL (C a as μ) (fun x μ' => κ (.inr (.inl x) :: st') μ')
    | false => none
  | 5 => mj_p2 st fun x y st' => match Nat.ble (mj_cat st') 8 with
    | true => κ (.inl (if x < y then y else x) :: st') μ
    | false => none
  | 6 => mj_acp LY st μ (fun st' μ' => match Nat.ble (mj_cat st') 8 with
    | true => κ st' μ'
    | false => none)
  | 7 => mj_a2 st fun j s i st' => match Nat.ble (mj_cat st') 8 with
    | true => match mj_srt LY s with
      | (4, n, _, _) => mj_tb4 TB n j fun x => κ (.inl x :: st') μ
      | _ => none
    | false => none
  | _ => none
/-- the steps that neither jump nor call -/
def mj_ps (ins : Instr) (a b k : Nat) (ls : mj_L) (st : List mj_V) (μ : mj_M) (κ : mj_L → List mj_V → mj_M → mj_R) : mj_R := match ins with
  | .iconst n => κ ls (.inl n :: st) μ
  | .bipush n => κ ls (.inl n :: st) μ
  | .sipush n => κ ls (.inl n :: st) μ
  | .lconst n => κ ls (.inr (.inl (n.val : Int)) :: st) μ
  | .iload _ => mj_ldi ls a fun x => κ ls (.inl x :: st) μ
  | .iload_n _ => mj_ldi ls a fun x => κ ls (.inl x :: st) μ
  | .lload _ => mj_ldl ls a fun x => κ ls (.inr (.inl x) :: st) μ
  | .lload_n _ => mj_ldl ls a fun x => κ ls (.inr (.inl x) :: st) μ
  | .aload _ => mj_lda ls a fun s i => κ ls (.inr (.inr (s, i)) :: st) μ
  | .aload_n _ => mj_lda ls a fun s i => κ ls (.inr (.inr (s, i)) :: st) μ
  | .istore _ => mj_p1 st fun x r => mj_sto ls a (.inl x) fun ls' => κ ls' r μ
  | .istore_n _ => mj_p1 st fun x r => mj_sto ls a (.inl x) fun ls' => κ ls' r μ
  | .lstore _ => mj_q1 st fun x r => mj_stl ls a x fun ls' => κ ls' r μ
  | .lstore_n _ => mj_q1 st fun x r => mj_stl ls a x fun ls' => κ ls' r μ
  | .astore _ => mj_a1 st fun s i r => mj_sto ls a (.inr (.inr (s, i))) fun ls' => κ ls' r μ
  | .astore_n _ => mj_a1 st fun s i r => mj_sto ls a (.inr (.inr (s, i))) fun ls' => κ ls' r μ
  | .iinc _ n => mj_ldi ls a fun x => mj_sto ls a (.inl (mj_w (x + n))) fun ls' => κ ls' st μ
  | .iadd => mj_p2 st fun x y r => mj_bi ins x y fun z => κ ls (.inl z :: r) μ
  | .isub => mj_p2 st fun x y r => mj_bi ins x y fun z => κ ls (.inl z :: r) μ
  | .imul => mj_p2 st fun x y r => mj_bi ins x y fun z => κ ls (.inl z :: r) μ
  | .idiv => mj_p2 st fun x y r => mj_bi ins x y fun z => κ ls (.inl z :: r) μ
  | .irem => mj_p2 st fun x y r => mj_bi ins x y fun z => κ ls (.inl z :: r) μ
  | .iand => mj_p2 st fun x y r => mj_bi ins x y fun z => κ ls (.inl z :: r) μ
  | .ior => mj_p2 st fun x y r => mj_bi ins x y fun z => κ ls (.inl z :: r) μ
  | .ixor => mj_p2 st fun x y r => mj_bi ins x y fun z => κ ls (.inl z :: r) μ
  | .ishl => mj_p2 st fun x y r => mj_bi ins x y fun z => κ ls (.inl z :: r) μ
  | .ishr => mj_p2 st fun x y r => mj_bi ins x y fun z => κ ls (.inl z :: r) μ
  | .ladd => mj_q2 st fun x y r => mj_bl ins x y fun z => κ ls (.inr (.inl z) :: r) μ
  | .lsub => mj_q2 st fun x y r => mj_bl ins x y fun z => κ ls (.inr (.inl z) :: r) μ
  | .lmul => mj_q2 st fun x y r => mj_bl ins x y fun z => κ ls (.inr (.inl z) :: r) μ
  | .ldiv => mj_q2 st fun x y r => mj_bl ins x y fun z => κ ls (.inr (.inl z) :: r) μ
  | .lrem => mj_q2 st fun x y r => mj_bl ins x y fun z => κ ls (.inr (.inl z) :: r) μ
  | .lcmp => mj_q2 st fun x y r => if x < y then κ ls (.inl (-1) :: r) μ else if x = y then κ ls (.inl 0 :: r) μ else κ ls (.inl 1 :: r) μ
  | .ineg => mj_p1 st fun x r => κ ls (.inl (mj_w (-x)) :: r) μ
  | .i2l => mj_p1 st fun x r => κ ls (.inr (.inl x) :: r) μ
  | .l2i => mj_q1 st fun x r => κ ls (.inl (mj_w x) :: r) μ
  | .i2b => mj_p1 st fun x r => κ ls (.inl ((x + 128) % 256 - 128) :: r) μ
  | .i2s => mj_p1 st fun x r => κ ls (.inl ((x + 32768) % 65536 - 32768) :: r) μ
  | .dup => match st with
    | .inl x :: r => κ ls (.inl x :: .inl x :: r) μ
    | .inr (.inr q) :: r => κ ls (.inr (.inr q) :: .inr (.inr q) :: r) μ
    | _ => none
  | .dup2 => mj_a2 st fun j s i r => κ ls (.inl j :: .inr (.inr (s, i)) :: .inl j :: .inr (.inr (s, i)) :: r) μ
  | .pop => mj_p1 st fun _ r => κ ls r μ
  | .ldc _ => match k with
    | 0 => match mj_nth CS a with
      | some x => κ ls (.inl x :: st) μ
      | none => none
    | _ + 1 => κ ls (.inr (.inr (a, 0)) :: st) μ
  | .ldc_w _ => match mj_nth CS a with
    | some x => κ ls (.inl x :: st) μ
    | none => none
  | .ldc2_w _ => match mj_nth CS a with
    | some x => κ ls (.inr (.inl x) :: st) μ
    | none => none
  | .getstatic _ => κ ls (.inr (.inr (a, 0)) :: st) μ
  | .getfield _ => mj_a1 st fun s i r => mj_gf LY a b s i r μ fun st' => κ ls st' μ
  | .putfield _ => match st with
    | .inl x :: .inr (.inr (s, i)) :: r => mj_pf LY a b k s i x μ fun μ' => κ ls r μ'
    | _ => none
  | .iaload => mj_a2 st fun j s i r => mj_ial LY TB j s i μ fun x => κ ls (.inl x :: r) μ
  | .laload => mj_a2 st fun j s i r => mj_lal LY j s i μ fun x => κ ls (.inr (.inl x) :: r) μ
  | .aaload => mj_a2 st fun j s _ r => mj_aal LY j s fun t o => κ ls (.inr (.inr (t, o)) :: r) μ
  | .iastore => match st with
    | .inl x :: .inl j :: .inr (.inr (s, i)) :: r => mj_ias LY x j s i μ fun μ' => κ ls r μ'
    | _ => none
  | .lastore => match st with
    | .inr (.inl x) :: .inl j :: .inr (.inr (s, i)) :: r => mj_las LY x j s i μ fun μ' => κ ls r μ'
    | _ => none
  | _ => none
def mj_ri (k : Nat) (st : List mj_V) (μ : mj_M) : mj_R := match st with
  | [.inl x] => match k with
    | 0 => some (some (.inl x), μ)
    | _ + 1 => if x = 0 ∨ x = 1 then some (some (.inl x), μ) else none
  | _ => none
def mj_rl (st : List mj_V) (μ : mj_M) : mj_R := match st with
  | [.inr (.inl x)] => some (some (.inr (.inl x)), μ)
  | _ => none
def mj_rv (st : List mj_V) (μ : mj_M) : mj_R := match st with
  | [] => some (none, μ)
  | _ => none
def mj_blk (K : Nat → mj_L → List mj_V → mj_M → mj_R) (C : Nat → List mj_V → mj_M → mj_R) : List mj_I → mj_L → List mj_V → mj_M → mj_R
  | [], _, _, _ => none
  | (_, ins, a, b, k, sw) :: is, ls, st, μ => match ins with
    | .nop => K a ls st μ
    | .goto _ => K a ls st μ
    | .ifCond c _ => mj_p1 st fun x r => mj_ifc c x 0 (K a ls r μ) (mj_blk K C is ls r μ)
    | .if_icmp c _ => mj_p2 st fun x y r => mj_ifc c x y (K a ls r μ) (mj_blk K C is ls r μ)
    | .tableswitch _ _ _ _ => mj_p1 st fun x r => mj_swk (fun l => K l ls r μ) a x sw
    | .lookupswitch _ _ => mj_p1 st fun x r => mj_swk (fun l => K l ls r μ) a x sw
    | .ireturn => mj_ri k st μ
    | .lreturn => mj_rl st μ
    | .return_ => mj_rv st μ
    | .invokevirtual _ => mj_cl LY TB C a b k st μ fun st' μ' => mj_blk K C is ls st' μ'
    | .invokestatic _ => mj_cl LY TB C a b k st μ fun st' μ' => mj_blk K C is ls st' μ'
    | _ => mj_ps LY TB CS ins a b k ls st μ fun ls' st' μ' => mj_blk K C is ls' st' μ'
end MJ
end
section
/-! what a step that neither jumps nor calls does: it goes on at one place, or nowhere -/
theorem mj_sto_pu {ls : mj_L} {a : Nat} {v : mj_V} {κ : mj_L → mj_R} {x : Option mj_V × mj_M} (h : mj_sto ls a v κ = some x) : ∃ l', κ l' = some x ∧ ∀ κ', mj_sto ls a v κ' = κ' l' := by
  cases a with
  | zero => exact ⟨_, h, fun _ => rfl⟩
  | succ j =>
    unfold mj_sto at h ⊢
    dsimp only at h ⊢
    split at h
    · cases h
    · rename_i hn
      refine ⟨_, h, fun κ' => ?_⟩
      first
        | rfl
        | (split
           · rename_i q
             exact absurd q (hn _)
           · rfl)
theorem mj_stl_pu {ls : mj_L} {a : Nat} {v : Int} {κ : mj_L → mj_R} {x : Option mj_V × mj_M} (h : mj_stl ls a v κ = some x) : ∃ l', κ l' = some x ∧ ∀ κ', mj_stl ls a v κ' = κ' l' := by
  obtain ⟨l', h1, h2⟩ := mj_sto_pu h
  exact ⟨_, h1, fun κ' => h2 _⟩
theorem mj_ldi_pu {ls : mj_L} {a : Nat} {κ : Int → mj_R} {x : Option mj_V × mj_M} (h : mj_ldi ls a κ = some x) : ∃ v, κ v = some x ∧ ∀ κ', mj_ldi ls a κ' = κ' v := by
  unfold mj_ldi at h ⊢
  split at h
  · rename_i q
    exact ⟨_, h, fun κ' => rfl⟩
  · cases h
theorem mj_ldl_pu {ls : mj_L} {a : Nat} {κ : Int → mj_R} {x : Option mj_V × mj_M} (h : mj_ldl ls a κ = some x) : ∃ v, κ v = some x ∧ ∀ κ', mj_ldl ls a κ' = κ' v := by
  unfold mj_ldl at h ⊢
  split at h
  · rename_i q
    exact ⟨_, h, fun κ' => rfl⟩
  · cases h
theorem mj_lda_pu {ls : mj_L} {a : Nat} {κ : Nat → Nat → mj_R} {x : Option mj_V × mj_M} (h : mj_lda ls a κ = some x) : ∃ s i, κ s i = some x ∧ ∀ κ', mj_lda ls a κ' = κ' s i := by
  unfold mj_lda at h ⊢
  split at h
  · rename_i q
    exact ⟨_, _, h, fun κ' => rfl⟩
  · cases h
theorem mj_p1_pu {st : List mj_V} {κ : Int → List mj_V → mj_R} {x : Option mj_V × mj_M} (h : mj_p1 st κ = some x) : ∃ v r, κ v r = some x ∧ ∀ κ', mj_p1 st κ' = κ' v r := by
  unfold mj_p1 at h ⊢
  split at h
  · exact ⟨_, _, h, fun _ => rfl⟩
  · cases h
theorem mj_p2_pu {st : List mj_V} {κ : Int → Int → List mj_V → mj_R} {x : Option mj_V × mj_M} (h : mj_p2 st κ = some x) : ∃ v w r, κ v w r = some x ∧ ∀ κ', mj_p2 st κ' = κ' v w r := by
  unfold mj_p2 at h ⊢
  split at h
  · exact ⟨_, _, _, h, fun _ => rfl⟩
  · cases h
theorem mj_q1_pu {st : List mj_V} {κ : Int → List mj_V → mj_R} {x : Option mj_V × mj_M} (h : mj_q1 st κ = some x) : ∃ v r, κ v r = some x ∧ ∀ κ', mj_q1 st κ' = κ' v r := by
  unfold mj_q1 at h ⊢
  split at h
  · exact ⟨_, _, h, fun _ => rfl⟩
  · cases h
theorem mj_q2_pu {st : List mj_V} {κ : Int → Int → List mj_V → mj_R} {x : Option mj_V × mj_M} (h : mj_q2 st κ = some x) : ∃ v w r, κ v w r = some x ∧ ∀ κ', mj_q2 st κ' = κ' v w r := by
  unfold mj_q2 at h ⊢
  split at h
  · exact ⟨_, _, _, h, fun _ => rfl⟩
  · cases h
theorem mj_a1_pu {st : List mj_V} {κ : Nat → Nat → List mj_V → mj_R} {x : Option mj_V × mj_M} (h : mj_a1 st κ = some x) : ∃ s i r, κ s i r = some x ∧ ∀ κ', mj_a1 st κ' = κ' s i r := by
  unfold mj_a1 at h ⊢
  split at h
  · exact ⟨_, _, _, h, fun _ => rfl⟩
  · cases h
theorem mj_a2_pu {st : List mj_V} {κ : Int → Nat → Nat → List mj_V → mj_R} {x : Option mj_V × mj_M} (h : mj_a2 st κ = some x) : ∃ j s i r, κ j s i r = some x ∧ ∀ κ', mj_a2 st κ' = κ' j s i r := by
  unfold mj_a2 at h ⊢
  split at h
  · exact ⟨_, _, _, _, h, fun _ => rfl⟩
  · cases h
theorem mj_if_pu {α : Type} {c : Prop} [hc : Decidable c] {κ : α → mj_R} {v : α} {x : Option mj_V × mj_M} (h : (if c then κ v else none) = some x) : κ v = some x ∧ ∀ κ' : α → mj_R, (if c then κ' v else none) = κ' v := by
  by_cases q : c
  · rw [if_pos q] at h
    exact ⟨h, fun _ => if_pos q⟩
  · rw [if_neg q] at h
    cases h
theorem mj_i3_pu {α : Type} {c d : Prop} [hc : Decidable c] [hd : Decidable d] {A B E : α} {κ : α → mj_R} {x : Option mj_V × mj_M} (h : (if c then κ A else if d then κ B else κ E) = some x) : ∃ z, κ z = some x ∧ ∀ κ' : α → mj_R, (if c then κ' A else if d then κ' B else κ' E) = κ' z := by
  by_cases q : c
  · exact ⟨A, (if_pos q).symm.trans h, fun _ => if_pos q⟩
  · by_cases q2 : d
    · exact ⟨B, ((if_neg q).trans (if_pos q2)).symm.trans h, fun _ => (if_neg q).trans (if_pos q2)⟩
    · exact ⟨E, ((if_neg q).trans (if_neg q2)).symm.trans h, fun _ => (if_neg q).trans (if_neg q2)⟩
theorem mj_bi_pu {ins : Instr} {a b : Int} {κ : Int → mj_R} {x : Option mj_V × mj_M} (h : mj_bi ins a b κ = some x) : ∃ v, κ v = some x ∧ ∀ κ', mj_bi ins a b κ' = κ' v := by
  unfold mj_bi at h ⊢
  split at h
  all_goals first
    | (cases h; done)
    | exact ⟨_, h, fun _ => rfl⟩
    | exact ⟨_, (mj_if_pu h).1, (mj_if_pu h).2⟩
    | (split at h
       · cases h
       · rename_i q
         exact ⟨_, h, fun _ => if_neg q⟩)
theorem mj_bl_pu {ins : Instr} {a b : Int} {κ : Int → mj_R} {x : Option mj_V × mj_M} (h : mj_bl ins a b κ = some x) : ∃ v, κ v = some x ∧ ∀ κ', mj_bl ins a b κ' = κ' v := by
  unfold mj_bl at h ⊢
  split at h
  all_goals first
    | (cases h; done)
    | exact ⟨_, h, fun _ => rfl⟩
    | (split at h
       · cases h
       · rename_i q
         exact ⟨_, h, fun _ => if_neg q⟩)
section MJ
variable {LY : List mj_S} {TB : List (List Int)} {CS : List Int}
theorem mj_gf_pu {a b s i : Nat} {st : List mj_V} {μ : mj_M} {κ : List mj_V → mj_R} {x : Option mj_V × mj_M} (h : mj_gf LY a b s i st μ κ = some x) : ∃ v, κ v = some x ∧ ∀ κ', mj_gf LY a b s i st μ κ' = κ' v := by
  unfold mj_gf at h ⊢
  split at h
  · rename_i e1
    split at h
    · rename_i e2
      split at h
      · rename_i e3
        exact ⟨_, h, fun κ' => by first | rfl | simp only [e1, e2, e3]⟩
      · rename_i e3
        exact ⟨_, h, fun κ' => by first | rfl | simp only [e1, e2, e3]⟩
      · cases h
    · cases h
  · cases h
theorem mj_pf_pu {a b k s i : Nat} {v : Int} {μ : mj_M} {κ : mj_M → mj_R} {x : Option mj_V × mj_M} (h : mj_pf LY a b k s i v μ κ = some x) : ∃ v', κ v' = some x ∧ ∀ κ', mj_pf LY a b k s i v μ κ' = κ' v' := by
  unfold mj_pf at h ⊢
  split at h
  · rename_i e1
    split at h
    · rename_i e2
      split at h
      · rename_i e3
        split at h
        · exact ⟨_, h, fun κ' => by first | rfl | simp only [e1, e2, e3]⟩
        · obtain ⟨h1, h2⟩ := mj_if_pu h
          exact ⟨_, h1, fun κ' => h2 κ'⟩
      · cases h
    · cases h
  · cases h
theorem mj_tb4_pu {n : Nat} {j : Int} {κ : Int → mj_R} {x : Option mj_V × mj_M} (h : mj_tb4 TB n j κ = some x) : ∃ v, κ v = some x ∧ (∀ κ', mj_tb4 TB n j κ' = κ' v) ∧ 0 ≤ j ∧ ∃ l, mj_nth TB n = some l ∧ mj_nth l j.toNat = some v := by
  unfold mj_tb4 at h ⊢
  split at h
  · rename_i e2
    split at h
    · rename_i e3
      by_cases q : 0 ≤ j
      · rw [if_pos q] at h
        exact ⟨_, h, fun κ' => if_pos q, q, _, e2, e3⟩
      · rw [if_neg q] at h
        cases h
    · cases h
  · cases h
theorem mj_ial_pu {j : Int} {s i : Nat} {μ : mj_M} {κ : Int → mj_R} {x : Option mj_V × mj_M} (h : mj_ial LY TB j s i μ κ = some x) : ∃ v, κ v = some x ∧ ∀ κ', mj_ial LY TB j s i μ κ' = κ' v := by
  unfold mj_ial at h ⊢
  split at h
  · rename_i e1
    obtain ⟨h1, h2⟩ := mj_if_pu h
    exact ⟨_, h1, fun κ' => h2 κ'⟩
  · rename_i e1
    obtain ⟨v, h1, h2, -⟩ := mj_tb4_pu h
    exact ⟨_, h1, fun κ' => h2 κ'⟩
  · cases h
theorem mj_lal_pu {j : Int} {s i : Nat} {μ : mj_M} {κ : Int → mj_R} {x : Option mj_V × mj_M} (h : mj_lal LY j s i μ κ = some x) : ∃ v, κ v = some x ∧ ∀ κ', mj_lal LY j s i μ κ' = κ' v := by
  unfold mj_lal at h ⊢
  split at h
  · rename_i e1
    obtain ⟨h1, h2⟩ := mj_if_pu h
    exact ⟨_, h1, fun κ' => h2 κ'⟩
  · cases h
theorem mj_ias_pu {v j : Int} {s i : Nat} {μ : mj_M} {κ : mj_M → mj_R} {x : Option mj_V × mj_M} (h : mj_ias LY v j s i μ κ = some x) : ∃ v', κ v' = some x ∧ ∀ κ', mj_ias LY v j s i μ κ' = κ' v' := by
  unfold mj_ias at h ⊢
  split at h
  · rename_i e1
    obtain ⟨h1, h2⟩ := mj_if_pu h
    exact ⟨_, h1, fun κ' => h2 κ'⟩
  · cases h
theorem mj_las_pu {v j : Int} {s i : Nat} {μ : mj_M} {κ : mj_M → mj_R} {x : Option mj_V × mj_M} (h : mj_las LY v j s i μ κ = some x) : ∃ v', κ v' = some x ∧ ∀ κ', mj_las LY v j s i μ κ' = κ' v' := by
  unfold mj_las at h ⊢
  split at h
  · rename_i e1
    obtain ⟨h1, h2⟩ := mj_if_pu h
    exact ⟨_, h1, fun κ' => h2 κ'⟩
  · cases h
theorem mj_aal_pu {j : Int} {s : Nat} {κ : Nat → Nat → mj_R} {x : Option mj_V × mj_M} (h : mj_aal LY j s κ = some x) : ∃ t o, κ t o = some x ∧ ∀ κ', mj_aal LY j s κ' = κ' t o := by
  unfold mj_aal at h ⊢
  split at h
  · rename_i e1
    split at h
    · rename_i q
      exact ⟨_, _, h, fun κ' => if_pos q⟩
    · cases h
  · cases h
theorem mj_acp_pu {st : List mj_V} {μ : mj_M} {κ : List mj_V → mj_M → mj_R} {x : Option mj_V × mj_M} (h : mj_acp LY st μ κ = some x) : ∃ r m, κ r m = some x ∧ ∀ κ', mj_acp LY st μ κ' = κ' r m := by
  unfold mj_acp at h ⊢
  split at h
  · split at h
    · rename_i e1 e2
      split at h
      · rename_i q
        exact ⟨_, _, h, fun κ' => if_pos q⟩
      · cases h
    · cases h
  · cases h
theorem mj_ps_pu {ins : Instr} {a b k : Nat} {ls : mj_L} {st : List mj_V} {μ : mj_M} {κ : mj_L → List mj_V → mj_M → mj_R} {x : Option mj_V × mj_M} (h : mj_ps LY TB CS ins a b k ls st μ κ = some x) : ∃ ls' st' μ', κ ls' st' μ' = some x ∧ ∀ κ', mj_ps LY TB CS ins a b k ls st μ κ' = κ' ls' st' μ' := by
  unfold mj_ps at h ⊢
  split at h
  all_goals first
    | (cases h; done)
    | exact ⟨_, _, _, h, fun _ => rfl⟩
    | (obtain ⟨v, h1, h2⟩ := mj_ldi_pu h; exact ⟨_, _, _, h1, fun κ' => h2 _⟩)
    | (obtain ⟨v, h1, h2⟩ := mj_ldl_pu h; exact ⟨_, _, _, h1, fun κ' => h2 _⟩)
    | (obtain ⟨v, w, h1, h2⟩ := mj_lda_pu h; exact ⟨_, _, _, h1, fun κ' => h2 _⟩)
    | (obtain ⟨v, h1, h2⟩ := mj_ldi_pu h; obtain ⟨l, h3, h4⟩ := mj_sto_pu h1; exact ⟨_, _, _, h3, fun κ' => (h2 _).trans (h4 _)⟩)
    | (obtain ⟨v, r, h1, h2⟩ := mj_p1_pu h; exact ⟨_, _, _, h1, fun κ' => h2 _⟩)
    | (obtain ⟨v, r, h1, h2⟩ := mj_q1_pu h; exact ⟨_, _, _, h1, fun κ' => h2 _⟩)
    | (obtain ⟨v, r, h1, h2⟩ := mj_p1_pu h; obtain ⟨l, h3, h4⟩ := mj_sto_pu h1; exact ⟨_, _, _, h3, fun κ' => (h2 _).trans (h4 _)⟩)
    | (obtain ⟨v, r, h1, h2⟩ := mj_q1_pu h; obtain ⟨l, h3, h4⟩ := mj_stl_pu h1; exact ⟨_, _, _, h3, fun κ' => (h2 _).trans (h4 _)⟩)
    | (obtain ⟨s, i, r, h1, h2⟩ := mj_a1_pu h; obtain ⟨l, h3, h4⟩ := mj_sto_pu h1; exact ⟨_, _, _, h3, fun κ' => (h2 _).trans (h4 _)⟩)
    | (obtain ⟨v, w, r, h1, h2⟩ := mj_p2_pu h; obtain ⟨l, h3, h4⟩ := mj_bi_pu h1; exact ⟨_, _, _, h3, fun κ' => (h2 _).trans (h4 _)⟩)
    | (obtain ⟨v, w, r, h1, h2⟩ := mj_q2_pu h; obtain ⟨l, h3, h4⟩ := mj_bl_pu h1; exact ⟨_, _, _, h3, fun κ' => (h2 _).trans (h4 _)⟩)
    | (obtain ⟨v, w, r, h1, h2⟩ := mj_q2_pu h; obtain ⟨z, h3, h4⟩ := mj_i3_pu (κ := fun q => κ ls q μ) h1; exact ⟨_, _, _, h3, fun κ' => (h2 _).trans (h4 (fun q => κ' ls q μ))⟩)
    | (obtain ⟨j, s, i, r, h1, h2⟩ := mj_a2_pu h; exact ⟨_, _, _, h1, fun κ' => h2 _⟩)
    | (obtain ⟨s, i, r, h1, h2⟩ := mj_a1_pu h; obtain ⟨l, h3, h4⟩ := mj_gf_pu h1; exact ⟨_, _, _, h3, fun κ' => (h2 _).trans (h4 _)⟩)
    | (obtain ⟨j, s, i, r, h1, h2⟩ := mj_a2_pu h; obtain ⟨l, h3, h4⟩ := mj_ial_pu h1; exact ⟨_, _, _, h3, fun κ' => (h2 _).trans (h4 _)⟩)
    | (obtain ⟨j, s, i, r, h1, h2⟩ := mj_a2_pu h; obtain ⟨l, h3, h4⟩ := mj_lal_pu h1; exact ⟨_, _, _, h3, fun κ' => (h2 _).trans (h4 _)⟩)
    | (obtain ⟨j, s, i, r, h1, h2⟩ := mj_a2_pu h; obtain ⟨t, o, h3, h4⟩ := mj_aal_pu h1; exact ⟨_, _, _, h3, fun κ' => (h2 _).trans (h4 _)⟩)
    | (split at h
       · first
         | exact ⟨_, _, _, h, fun _ => rfl⟩
         | (obtain ⟨l, h3, h4⟩ := mj_pf_pu h; exact ⟨_, _, _, h3, fun κ' => h4 _⟩)
         | (obtain ⟨l, h3, h4⟩ := mj_ias_pu h; exact ⟨_, _, _, h3, fun κ' => h4 _⟩)
         | (obtain ⟨l, h3, h4⟩ := mj_las_pu h; exact ⟨_, _, _, h3, fun κ' => h4 _⟩)
         | (split at h
            · rename_i e; exact ⟨_, _, _, h, fun _ => by first | rfl | simp only [e]⟩
            · cases h)
         | (rename_i e; exact ⟨_, _, _, h, fun _ => by first | rfl | simp only [e]⟩)
       · first
         | (cases h; done)
         | exact ⟨_, _, _, h, fun _ => rfl⟩
       · cases h)
    | (split at h
       · first
         | (split at h
            · rename_i e; exact ⟨_, _, _, h, fun _ => by first | rfl | simp only [e]⟩
            · cases h)
         | (rename_i e; exact ⟨_, _, _, h, fun _ => by first | rfl | simp only [e]⟩)
         | (obtain ⟨l, h3, h4⟩ := mj_pf_pu h; exact ⟨_, _, _, h3, fun κ' => h4 _⟩)
         | (obtain ⟨l, h3, h4⟩ := mj_ias_pu h; exact ⟨_, _, _, h3, fun κ' => h4 _⟩)
         | (obtain ⟨l, h3, h4⟩ := mj_las_pu h; exact ⟨_, _, _, h3, fun κ' => h4 _⟩)
       · first
         | (cases h; done)
         | exact ⟨_, _, _, h, fun _ => rfl⟩)
end MJ
end
section
/-! runs with fuel, and what they come to -/
abbrev mj_P : Type := List (Nat × List (List Bool × List mj_I))
def mj_in (f : Nat → mj_R) : Nat → mj_R
  | 0 => none
  | d + 1 => f d
def mj_bk (PG : mj_P) (y l : Nat) : List Bool × List mj_I := match mj_nth PG y with
  | some (_, bs) => match mj_nth bs l with
    | some q => q
    | none => ([], [])
  | none => ([], [])
def mj_ent (PG : mj_P) (y : Nat) (as : List mj_V) : mj_L := match mj_nth PG y with
  | some (n, _) => mj_pad n (mj_pl as)
  | none => []
section MJ
variable (LY : List mj_S) (TB : List (List Int)) (CS : List Int) (PG : mj_P)
def mj_run : Nat → Nat → Nat → Nat → mj_L → List mj_V → mj_M → mj_R
  | 0, _, _, _, _, _, _ => none
  | n + 1, d, y, l, ls, st, μ => mj_blk LY TB CS (fun l' => mj_run n d y l') (fun y' as μ' => mj_in (fun d' => mj_run n d' y' 0 (mj_ent PG y' as) [] μ') d) (mj_bk PG y l).2 (mj_keep (mj_bk PG y l).1 ls) st μ
end MJ
section MK
variable {LY : List mj_S} {TB : List (List Int)} {CS : List Int} {PG : mj_P}
theorem mj_pop_pu {n : Nat} {st acc : List mj_V} {κ : List mj_V → List mj_V → mj_R} {x : Option mj_V × mj_M} (h : mj_pop n st acc κ = some x) : ∃ as r, κ as r = some x ∧ (∀ κ', mj_pop n st acc κ' = κ' as r) ∧ ∃ q, st = q ++ r ∧ q.length = n ∧ as = q.reverse ++ acc := by
  induction n generalizing st acc with
  | zero => exact ⟨acc, st, h, fun _ => rfl, [], rfl, rfl, rfl⟩
  | succ n ih =>
    cases st with
    | nil => cases h
    | cons v st =>
      obtain ⟨as, r, h1, h2, q, h3, h4, h5⟩ := ih (st := st) (acc := v :: acc) h
      exact ⟨as, r, h1, h2, v :: q, by rw [h3]; rfl, by rw [List.length_cons, h4], by rw [h5]; simp⟩
theorem mj_rV_pu {r : mj_R} {κ : mj_M → mj_R} {x : Option mj_V × mj_M} (h : mj_rV r κ = some x) : ∃ μ, r = some (none, μ) ∧ κ μ = some x := by
  unfold mj_rV at h
  split at h
  · exact ⟨_, rfl, h⟩
  · cases h
theorem mj_rI_pu {r : mj_R} {κ : Int → mj_M → mj_R} {x : Option mj_V × mj_M} (h : mj_rI r κ = some x) : ∃ v μ, r = some (some (.inl v), μ) ∧ κ v μ = some x := by
  unfold mj_rI at h
  split at h
  · exact ⟨_, _, rfl, h⟩
  · cases h
theorem mj_rL_pu {r : mj_R} {κ : Int → mj_M → mj_R} {x : Option mj_V × mj_M} (h : mj_rL r κ = some x) : ∃ v μ, r = some (some (.inr (.inl v)), μ) ∧ κ v μ = some x := by
  unfold mj_rL at h
  split at h
  · exact ⟨_, _, rfl, h⟩
  · cases h
theorem mj_cl_pu {C : Nat → List mj_V → mj_M → mj_R} {a b k : Nat} {st : List mj_V} {μ : mj_M} {κ : List mj_V → mj_M → mj_R} {x : Option mj_V × mj_M} (h : mj_cl LY TB C a b k st μ κ = some x) :
    ∃ st' μ', κ st' μ' = some x ∧ ((∀ C' κ', mj_cl LY TB C' a b k st μ κ' = κ' st' μ') ∨ ∃ as r, C a as μ = some r ∧ ∀ C' κ', C' a as μ = some r → mj_cl LY TB C' a b k st μ κ' = κ' st' μ') := by
  unfold mj_cl at h ⊢
  split at h
  · obtain ⟨as, r, h1, h2, -⟩ := mj_pop_pu h
    split at h1
    · rename_i e
      obtain ⟨m, h3, h4⟩ := mj_rV_pu h1
      refine ⟨_, _, h4, Or.inr ⟨as, _, h3, fun C' κ' hc => ?_⟩⟩
      rw [h2]
      simp only [e, hc]
      rfl
    · cases h1
  · obtain ⟨as, r, h1, h2, -⟩ := mj_pop_pu h
    split at h1
    · rename_i e
      obtain ⟨v, m, h3, h4⟩ := mj_rI_pu h1
      refine ⟨_, _, h4, Or.inr ⟨as, _, h3, fun C' κ' hc => ?_⟩⟩
      rw [h2]
      simp only [e, hc]
      rfl
    · cases h1
  · obtain ⟨as, r, h1, h2, -⟩ := mj_pop_pu h
    split at h1
    · rename_i e
      obtain ⟨v, m, h3, h4⟩ := mj_rL_pu h1
      refine ⟨_, _, h4, Or.inr ⟨as, _, h3, fun C' κ' hc => ?_⟩⟩
      rw [h2]
      simp only [e, hc]
      rfl
    · cases h1
  · obtain ⟨v, w, r, h1, h2⟩ := mj_p2_pu h
    split at h1
    · rename_i e
      refine ⟨_, _, h1, Or.inl fun C' κ' => ?_⟩
      rw [h2]
      simp only [e]
    · cases h1
  · obtain ⟨r, m, h1, h2⟩ := mj_acp_pu h
    split at h1
    · rename_i e
      refine ⟨_, _, h1, Or.inl fun C' κ' => ?_⟩
      rw [h2]
      simp only [e]
    · cases h1
  · obtain ⟨j, s, i, r, h1, h2⟩ := mj_a2_pu h
    split at h1
    · rename_i e1
      split at h1
      · rename_i e2
        obtain ⟨v, h3, h4, -⟩ := mj_tb4_pu h1
        refine ⟨_, _, h3, Or.inl fun C' κ' => ?_⟩
        rw [h2]
        simp only [e1, e2]
        exact h4 _
      · cases h1
    · cases h1
  · cases h
theorem mj_ifc_mono {c : Jvm.ClassFile.Cond} {v w : Int} {A B A' B' : mj_R} {x : Option mj_V × mj_M} (hA : A = some x → A' = some x) (hB : B = some x → B' = some x) (h : mj_ifc c v w A B = some x) : mj_ifc c v w A' B' = some x := by
  cases c <;> (unfold mj_ifc at h ⊢; dsimp only at h ⊢; split at h <;> rename_i q <;> first | (rw [if_pos q]; first | exact hA h | exact hB h) | (rw [if_neg q]; first | exact hA h | exact hB h))
theorem mj_swk_mono {K K' : Nat → mj_R} {x : Option mj_V × mj_M} (hK : ∀ l, K l = some x → K' l = some x) {d : Nat} {v : Int} (sw : List (Int × Nat)) (h : mj_swk K d v sw = some x) : mj_swk K' d v sw = some x := by
  induction sw with
  | nil => exact hK _ h
  | cons q r ih =>
    unfold mj_swk at h ⊢
    split at h
    · rename_i e
      rw [if_pos e]
      exact hK _ h
    · rename_i e
      rw [if_neg e]
      exact ih h
theorem mj_blk_mono {K K' : Nat → mj_L → List mj_V → mj_M → mj_R} {C C' : Nat → List mj_V → mj_M → mj_R} (hK : ∀ l ls st μ x, K l ls st μ = some x → K' l ls st μ = some x) (hC : ∀ y as μ x, C y as μ = some x → C' y as μ = some x) :
    ∀ (is : List mj_I) (ls : mj_L) (st : List mj_V) (μ : mj_M) (x : Option mj_V × mj_M), mj_blk LY TB CS K C is ls st μ = some x → mj_blk LY TB CS K' C' is ls st μ = some x := by
  intro is
  induction is with
  | nil => intro ls st μ x h; cases h
  | cons q is ih =>
    obtain ⟨pc, ins, a, b, k, sw⟩ := q
    intro ls st μ x h
    unfold mj_blk at h ⊢
    split at h
    · exact hK _ _ _ _ _ h
    · exact hK _ _ _ _ _ h
    · obtain ⟨v, r, h1, h2⟩ := mj_p1_pu h
      exact (h2 _).trans (mj_ifc_mono (hK _ _ _ _ _) (ih _ _ _ _) h1)
    · obtain ⟨v, w, r, h1, h2⟩ := mj_p2_pu h
      exact (h2 _).trans (mj_ifc_mono (hK _ _ _ _ _) (ih _ _ _ _) h1)
    · obtain ⟨v, r, h1, h2⟩ := mj_p1_pu h
      exact (h2 _).trans (mj_swk_mono (fun l => hK l _ _ _ _) sw h1)
    · obtain ⟨v, r, h1, h2⟩ := mj_p1_pu h
      exact (h2 _).trans (mj_swk_mono (fun l => hK l _ _ _ _) sw h1)
    · exact h
    · exact h
    · exact h
    · obtain ⟨st', μ', h1, h2⟩ := mj_cl_pu h
      rcases h2 with h2 | ⟨as, r, h3, h2⟩
      · exact (h2 _ _).trans (ih _ _ _ _ h1)
      · exact (h2 _ _ (hC _ _ _ _ h3)).trans (ih _ _ _ _ h1)
    · obtain ⟨st', μ', h1, h2⟩ := mj_cl_pu h
      rcases h2 with h2 | ⟨as, r, h3, h2⟩
      · exact (h2 _ _).trans (ih _ _ _ _ h1)
      · exact (h2 _ _ (hC _ _ _ _ h3)).trans (ih _ _ _ _ h1)
    · obtain ⟨ls', st', μ', h1, h2⟩ := mj_ps_pu h
      exact (h2 _).trans (ih _ _ _ _ h1)
theorem mj_in_mono {f g : Nat → mj_R} {x : Option mj_V × mj_M} (h : ∀ d, f d = some x → g d = some x) : ∀ d, mj_in f d = some x → mj_in g d = some x
  | 0, q => by cases q
  | d + 1, q => h d q
theorem mj_run_mono : ∀ (n d y l : Nat) (ls : mj_L) (st : List mj_V) (μ : mj_M) (x : Option mj_V × mj_M), mj_run LY TB CS PG n d y l ls st μ = some x → mj_run LY TB CS PG (n + 1) d y l ls st μ = some x := by
  intro n
  induction n with
  | zero => intro d y l ls st μ x h; cases h
  | succ n ih =>
    intro d y l ls st μ x h
    rw [mj_run] at h ⊢
    exact mj_blk_mono (fun l' ls st μ x h => ih _ _ _ _ _ _ _ h) (fun y as μ x h => mj_in_mono (fun d h => ih _ _ _ _ _ _ _ h) _ h) _ _ _ _ _ h
theorem mj_run_le {n m d y l : Nat} {ls : mj_L} {st : List mj_V} {μ : mj_M} {x : Option mj_V × mj_M} (hm : n ≤ m) (h : mj_run LY TB CS PG n d y l ls st μ = some x) : mj_run LY TB CS PG m d y l ls st μ = some x := by
  induction m with
  | zero =>
    have : n = 0 := by omega
    subst this
    exact h
  | succ m ih =>
    by_cases q : n = m + 1
    · subst q; exact h
    · exact mj_run_mono _ _ _ _ _ _ _ _ (ih (by omega))
theorem mj_den_ex (LY : List mj_S) (TB : List (List Int)) (CS : List Int) (PG : mj_P) (d y l : Nat) (ls : mj_L) (st : List mj_V) (μ : mj_M) : ∃ r : mj_R, ∀ x, r = some x ↔ ∃ n, mj_run LY TB CS PG n d y l ls st μ = some x := by
  by_cases h : ∃ n x, mj_run LY TB CS PG n d y l ls st μ = some x
  · obtain ⟨n, x, h⟩ := h
    refine ⟨some x, fun z => ⟨fun e => ⟨n, by rw [h, ← e]⟩, fun ⟨m, hm⟩ => ?_⟩⟩
    have h1 := mj_run_le (Nat.le_max_left n m) h
    have h2 := mj_run_le (Nat.le_max_right n m) hm
    rw [h1] at h2
    exact h2
  · refine ⟨none, fun z => ⟨fun e => (by cases e), fun ⟨m, hm⟩ => absurd ⟨m, z, hm⟩ h⟩⟩
noncomputable def mj_den (LY : List mj_S) (TB : List (List Int)) (CS : List Int) (PG : mj_P) (d y l : Nat) (ls : mj_L) (st : List mj_V) (μ : mj_M) : mj_R := Classical.choose (mj_den_ex LY TB CS PG d y l ls st μ)
noncomputable def mj_call (LY : List mj_S) (TB : List (List Int)) (CS : List Int) (PG : mj_P) (d y : Nat) (as : List mj_V) (μ : mj_M) : mj_R := mj_in (fun d' => mj_den LY TB CS PG d' y 0 (mj_ent PG y as) [] μ) d
theorem mj_den_iff {d y l : Nat} {ls : mj_L} {st : List mj_V} {μ : mj_M} {x : Option mj_V × mj_M} : mj_den LY TB CS PG d y l ls st μ = some x ↔ ∃ n, mj_run LY TB CS PG n d y l ls st μ = some x := Classical.choose_spec (mj_den_ex LY TB CS PG d y l ls st μ) x
theorem mj_ifc_ct {c : Jvm.ClassFile.Cond} {v w : Int} {A B : mj_R} {A' B' : Nat → mj_R} {x : Option mj_V × mj_M} (hA : A = some x → ∃ n, A' n = some x) (hB : B = some x → ∃ n, B' n = some x) (h : mj_ifc c v w A B = some x) : ∃ n, mj_ifc c v w (A' n) (B' n) = some x := by
  have key : (A = some x ∧ ∀ A B : mj_R, mj_ifc c v w A B = A) ∨ (B = some x ∧ ∀ A B : mj_R, mj_ifc c v w A B = B) := by
    cases c <;> (unfold mj_ifc at h ⊢; dsimp only at h ⊢; split at h <;> rename_i q <;> simp [q, h])
  rcases key with ⟨h1, h2⟩ | ⟨h1, h2⟩
  · obtain ⟨n, hn⟩ := hA h1
    exact ⟨n, (h2 _ _).trans hn⟩
  · obtain ⟨n, hn⟩ := hB h1
    exact ⟨n, (h2 _ _).trans hn⟩
theorem mj_swk_ct {K : Nat → mj_R} {K' : Nat → Nat → mj_R} {x : Option mj_V × mj_M} (hK : ∀ l, K l = some x → ∃ n, K' n l = some x) {d : Nat} {v : Int} (sw : List (Int × Nat)) (h : mj_swk K d v sw = some x) : ∃ n, mj_swk (K' n) d v sw = some x := by
  induction sw with
  | nil => exact hK _ h
  | cons q r ih =>
    unfold mj_swk at h ⊢
    split at h
    · rename_i e
      obtain ⟨n, hn⟩ := hK _ h
      exact ⟨n, by rw [if_pos e]; exact hn⟩
    · rename_i e
      obtain ⟨n, hn⟩ := ih h
      exact ⟨n, by rw [if_neg e]; exact hn⟩
theorem mj_blk_ct {K : Nat → mj_L → List mj_V → mj_M → mj_R} {C : Nat → List mj_V → mj_M → mj_R} {K' : Nat → Nat → mj_L → List mj_V → mj_M → mj_R} {C' : Nat → Nat → List mj_V → mj_M → mj_R}
    (hK : ∀ l ls st μ x, K l ls st μ = some x → ∃ n, K' n l ls st μ = some x) (hC : ∀ y as μ x, C y as μ = some x → ∃ n, C' n y as μ = some x)
    (mK : ∀ n m l ls st μ x, n ≤ m → K' n l ls st μ = some x → K' m l ls st μ = some x) (mC : ∀ n m y as μ x, n ≤ m → C' n y as μ = some x → C' m y as μ = some x) :
    ∀ (is : List mj_I) (ls : mj_L) (st : List mj_V) (μ : mj_M) (x : Option mj_V × mj_M), mj_blk LY TB CS K C is ls st μ = some x → ∃ n, mj_blk LY TB CS (K' n) (C' n) is ls st μ = some x := by
  intro is
  induction is with
  | nil => intro ls st μ x h; cases h
  | cons q is ih =>
    obtain ⟨pc, ins, a, b, k, sw⟩ := q
    intro ls st μ x h
    unfold mj_blk at h ⊢
    split at h
    · exact hK _ _ _ _ _ h
    · exact hK _ _ _ _ _ h
    · obtain ⟨v, r, h1, h2⟩ := mj_p1_pu h
      obtain ⟨n, hn⟩ := mj_ifc_ct (A' := fun n => K' n a ls r μ) (B' := fun n => mj_blk LY TB CS (K' n) (C' n) is ls r μ) (hK _ _ _ _ _) (ih _ _ _ _) h1
      exact ⟨n, (h2 _).trans hn⟩
    · obtain ⟨v, w, r, h1, h2⟩ := mj_p2_pu h
      obtain ⟨n, hn⟩ := mj_ifc_ct (A' := fun n => K' n a ls r μ) (B' := fun n => mj_blk LY TB CS (K' n) (C' n) is ls r μ) (hK _ _ _ _ _) (ih _ _ _ _) h1
      exact ⟨n, (h2 _).trans hn⟩
    · obtain ⟨v, r, h1, h2⟩ := mj_p1_pu h
      obtain ⟨n, hn⟩ := mj_swk_ct (K' := fun n l => K' n l ls r μ) (fun l => hK l _ _ _ _) sw h1
      exact ⟨n, (h2 _).trans hn⟩
    · obtain ⟨v, r, h1, h2⟩ := mj_p1_pu h
      obtain ⟨n, hn⟩ := mj_swk_ct (K' := fun n l => K' n l ls r μ) (fun l => hK l _ _ _ _) sw h1
      exact ⟨n, (h2 _).trans hn⟩
    · exact ⟨0, h⟩
    · exact ⟨0, h⟩
    · exact ⟨0, h⟩
    · obtain ⟨st', μ', h1, h2⟩ := mj_cl_pu h
      obtain ⟨n, hn⟩ := ih _ _ _ _ h1
      rcases h2 with h2 | ⟨as, r, h3, h2⟩
      · exact ⟨n, (h2 _ _).trans hn⟩
      · obtain ⟨m, hm⟩ := hC _ _ _ _ h3
        exact ⟨max n m, (h2 _ _ (mC _ _ _ _ _ _ (Nat.le_max_right n m) hm)).trans (mj_blk_mono (fun l ls st μ x => mK _ _ _ _ _ _ _ (Nat.le_max_left n m)) (fun y as μ x => mC _ _ _ _ _ _ (Nat.le_max_left n m)) _ _ _ _ _ hn)⟩
    · obtain ⟨st', μ', h1, h2⟩ := mj_cl_pu h
      obtain ⟨n, hn⟩ := ih _ _ _ _ h1
      rcases h2 with h2 | ⟨as, r, h3, h2⟩
      · exact ⟨n, (h2 _ _).trans hn⟩
      · obtain ⟨m, hm⟩ := hC _ _ _ _ h3
        exact ⟨max n m, (h2 _ _ (mC _ _ _ _ _ _ (Nat.le_max_right n m) hm)).trans (mj_blk_mono (fun l ls st μ x => mK _ _ _ _ _ _ _ (Nat.le_max_left n m)) (fun y as μ x => mC _ _ _ _ _ _ (Nat.le_max_left n m)) _ _ _ _ _ hn)⟩
    · obtain ⟨ls', st', μ', h1, h2⟩ := mj_ps_pu h
      obtain ⟨n, hn⟩ := ih _ _ _ _ h1
      exact ⟨n, (h2 _).trans hn⟩
/-- THE EQUATION: what a block comes to -/
theorem mj_fix {d y l : Nat} {ls : mj_L} {st : List mj_V} {μ : mj_M} : mj_den LY TB CS PG d y l ls st μ = mj_blk LY TB CS (fun l' => mj_den LY TB CS PG d y l') (mj_call LY TB CS PG d) (mj_bk PG y l).2 (mj_keep (mj_bk PG y l).1 ls) st μ := by
  apply Option.ext
  intro x
  constructor
  · intro h
    obtain ⟨n, hn⟩ := mj_den_iff.mp h
    cases n with
    | zero => cases hn
    | succ n =>
      rw [mj_run] at hn
      refine mj_blk_mono (fun l' ls st μ x h => mj_den_iff.mpr ⟨n, h⟩) (fun y as μ x h => ?_) _ _ _ _ _ hn
      exact mj_in_mono (fun d h => mj_den_iff.mpr ⟨n, h⟩) _ h
  · intro h
    obtain ⟨n, hn⟩ := mj_blk_ct (K' := fun n l' => mj_run LY TB CS PG n d y l') (C' := fun n y' as μ' => mj_in (fun d' => mj_run LY TB CS PG n d' y' 0 (mj_ent PG y' as) [] μ') d)
      (fun l ls st μ x h => mj_den_iff.mp h) (fun y as μ x h => by
        unfold mj_call at h
        cases d with
        | zero => cases h
        | succ d => exact mj_den_iff.mp h)
      (fun n m l ls st μ x hm h => mj_run_le hm h) (fun n m y as μ x hm h => mj_in_mono (fun d h => mj_run_le hm h) _ h) _ _ _ _ _ h
    exact mj_den_iff.mpr ⟨n + 1, by rw [mj_run]; exact hn⟩
theorem mj_call_eq {d y : Nat} {as : List mj_V} {μ : mj_M} : mj_call LY TB CS PG (d + 1) y as μ = mj_den LY TB CS PG d y 0 (mj_ent PG y as) [] μ := rfl
end MK
end
section
/-! printed by wip/whole/gen.py: the layout, the tables, the code of every method but the constructors and the law, block by block -/
/-- 0 NC, 1 PLAN, 2 PDOES, 3 PSLOW, 4 PPAUSE, 5 PCOMES, 6 ASKERS, 7 ASKER, 8 TEXTS, 9 TEXT, 10 TROW, 11 TENDS, 12 TPILE, 13 TNAMED, 14 TAPE, 15 TBYTES, 16 TAROW, 17 TAENDS, 18 SHEETS, 19 SHEET, 20 CELLS, 21 DAY, 22 FATE, 23 BEGAN, 24 ENDED, 25 SERVED, 26 TIMES, 27 IDLED, 28 WITH, 29 BUSY, 30 LINE, 31 LEAST, 32 PARTS, 33 MODEL, 34 M_counterOf, 35 M_kind, 36 M_letterOf, 37 M_base, 38 M_more, 39 M_comesAt, 40 M_tape, 41 M_codes, 42 M_starts, 43 M_imageOf, 44 M_imageComes, 45 M_sheetSort, 46 M_sheetSize, 47 M_cells, 48 M_law, 49 M_words, 50 M_held, 51 M_stack, 52 M_named, 53 M_state, 54 M_wants, 55 M_began, 56 M_ended, 57 M_servedAt, 58 M_calls, 59 M_busyTill, 60 M_idles, 61 M_parts, 62 M_keptComes, 63 WORDS, 64 ABOVE -/
def mk_LY : List mj_S := [(0, 7, 1, [some (1, 0), some (1, 1), none, some (6, 0), some (8, 0), none, some (14, 0), some (18, 0), some (21, 0), some (31, 0), some (32, 0)]),
  (0, 3, 3, [none, some (2, 0), some (3, 0), some (4, 0), none, some (5, 0), none, none, none, none, none, none]),
  (1, 4, 3, []),
  (1, 4, 3, []),
  (1, 4, 3, []),
  (1, 16, 3, []),
  (3, 16, 1, [some (7, 0)]),
  (0, 0, 16, [none, none, none, none]),
  (3, 6, 1, [some (9, 0)]),
  (0, 6, 6, [some (10, 0), some (11, 0), some (12, 0), some (13, 0)]),
  (1, 160, 6, []),
  (1, 3, 6, []),
  (1, 32, 6, []),
  (1, 6, 6, []),
  (0, 5, 1, [some (15, 0), none, some (16, 0), some (17, 0), none, none, none, none, none]),
  (1, 160, 1, []),
  (1, 160, 1, []),
  (1, 3, 1, []),
  (3, 4, 1, [some (19, 0)]),
  (0, 4, 4, [none, none, some (20, 0)]),
  (1, 40, 4, []),
  (0, 1, 1, [some (1, 2), some (22, 0), some (23, 0), some (24, 0), some (25, 0), some (26, 0), some (27, 0), some (28, 0), some (29, 0), some (30, 0), none, none]),
  (1, 16, 1, []),
  (1, 16, 1, []),
  (1, 16, 1, []),
  (1, 16, 1, []),
  (1, 16, 1, []),
  (1, 4, 1, []),
  (1, 16, 1, []),
  (1, 4, 1, []),
  (1, 16, 1, []),
  (0, 2, 1, [none, none]),
  (2, 41, 1, []),
  (0, 8, 1, [none, some (34, 0), none, none, none, none, some (35, 0), some (36, 0), some (37, 0), some (38, 0), some (39, 0), some (40, 0), none, some (41, 0), some (42, 0), none, none, none, none, none, none, none, none, none, some (43, 0), some (44, 0), some (45, 0), some (46, 0), some (47, 0), some (48, 0), none, none, none, none, some (49, 0), some (50, 0), none, none, none, some (51, 0), some (52, 0), none, some (53, 0), some (54, 0), some (55, 0), some (56, 0), some (57, 0), some (58, 0), some (59, 0), some (60, 0), none, none, some (61, 0), some (62, 0)]),
  (1, 12, 1, []),
  (1, 17, 1, []),
  (1, 17, 1, []),
  (1, 17, 1, []),
  (1, 17, 1, []),
  (1, 17, 1, []),
  (1, 160, 1, []),
  (1, 1200, 1, []),
  (1, 24, 1, []),
  (1, 12, 1, []),
  (1, 17, 1, []),
  (1, 4, 1, []),
  (1, 4, 1, []),
  (1, 160, 1, []),
  (1, 54, 1, []),
  (1, 96, 1, []),
  (1, 200, 1, []),
  (1, 200, 1, []),
  (1, 6, 1, []),
  (1, 17, 1, []),
  (1, 17, 1, []),
  (1, 17, 1, []),
  (1, 17, 1, []),
  (1, 17, 1, []),
  (1, 17, 1, []),
  (1, 4, 1, []),
  (1, 4, 1, []),
  (2, 41, 1, []),
  (1, 17, 1, []),
  (4, 0, 1, []),
  (4, 1, 1, [])]
def mk_TB : List (List Int) := [[116, 97, 107, 101, 115, 32, 119, 97, 105, 116, 115, 32, 109, 105, 110, 100, 115, 32, 111, 114, 32, 32, 32, 32, 97, 110, 100, 32, 32, 32, 110, 111, 116, 32, 32, 32, 98, 97, 115, 101, 32, 32, 109, 111, 114, 101, 32, 32, 115, 108, 111, 119, 32, 32, 119, 97, 105, 116, 32, 32, 115, 97, 105, 100, 32, 32, 108, 101, 116, 116, 101, 114],
  [(-1), 0, 0, 2, 0, 1]]
/-- NumbersCalled.counter(II)I -/
def mk_b0_0 : List Bool × List mj_I := ([true, true, true, false], [(0, .iload_n 1, 1, 0, 0, []), (1, .iconst 0, 0, 0, 0, []), (2, .bipush 15, 0, 0, 0, []), (4, .invokestatic 92, 44, 3, 1, []), (7, .ifCond .eq (13), 1, 0, 0, []), (10, .iload_n 2, 2, 0, 0, []), (11, .iconst 0, 0, 0, 0, []), (12, .bipush 9, 0, 0, 0, []), (14, .invokestatic 92, 44, 3, 1, []), (17, .ifCond .ne (6), 2, 0, 0, []), (20, .nop, 1, 0, 0, [])])
def mk_b0_1 : List Bool × List mj_I := ([false, false, false, false], [(20, .bipush (-2), 0, 0, 0, []), (22, .ireturn, 0, 0, 0, [])])
def mk_b0_2 : List Bool × List mj_I := ([true, true, true, false], [(23, .aload_n 0, 0, 0, 0, []), (24, .getfield 10, 0, 7, 0, []), (27, .getfield 96, 0, 3, 0, []), (30, .iconst 4, 0, 0, 0, []), (31, .if_icmp .lt (6), 3, 0, 0, []), (34, .bipush (-4), 0, 0, 0, []), (36, .ireturn, 0, 0, 0, [])])
def mk_b0_3 : List Bool × List mj_I := ([true, true, true, false], [(37, .aload_n 0, 0, 0, 0, []), (38, .getfield 10, 0, 7, 0, []), (41, .getfield 96, 0, 3, 0, []), (44, .istore_n 3, 3, 0, 0, []), (45, .aload_n 0, 0, 0, 0, []), (46, .getfield 10, 0, 7, 0, []), (49, .getfield 99, 1, 3, 0, []), (52, .iload_n 3, 3, 0, 0, []), (53, .iload_n 1, 1, 0, 0, []), (54, .iastore, 0, 0, 0, []), (55, .aload_n 0, 0, 0, 0, []), (56, .getfield 10, 0, 7, 0, []), (59, .getfield 103, 2, 3, 0, []), (62, .iload_n 3, 3, 0, 0, []), (63, .iload_n 2, 2, 0, 0, []), (64, .iastore, 0, 0, 0, []), (65, .aload_n 0, 0, 0, 0, []), (66, .getfield 10, 0, 7, 0, []), (69, .getfield 106, 3, 3, 0, []), (72, .iload_n 3, 3, 0, 0, []), (73, .iconst (-1), 0, 0, 0, []), (74, .iastore, 0, 0, 0, []), (75, .aload_n 0, 0, 0, 0, []), (76, .getfield 10, 0, 7, 0, []), (79, .dup, 0, 0, 0, []), (80, .getfield 96, 0, 3, 0, []), (83, .iconst 1, 0, 0, 0, []), (84, .iadd, 0, 0, 0, []), (85, .putfield 96, 0, 3, 0, []), (88, .iload_n 3, 3, 0, 0, []), (89, .ireturn, 0, 0, 0, [])])
def mk_m0 : Nat × List (List Bool × List mj_I) := (4, [mk_b0_0, mk_b0_1, mk_b0_2, mk_b0_3])
/-- NumbersCalled.change(III)I -/
def mk_b1_0 : List Bool × List mj_I := ([true, true, true, true, false], [(0, .aload_n 0, 0, 0, 0, []), (1, .iload_n 1, 1, 0, 0, []), (2, .invokevirtual 109, 49, 2, 1, []), (5, .ifCond .ne (6), 1, 0, 0, []), (8, .bipush (-5), 0, 0, 0, []), (10, .ireturn, 0, 0, 0, [])])
def mk_b1_1 : List Bool × List mj_I := ([true, true, true, true, false], [(11, .iload_n 2, 2, 0, 0, []), (12, .iload_n 3, 3, 0, 0, []), (13, .invokestatic 113, 51, 2, 1, []), (16, .ifCond .ne (6), 2, 0, 0, []), (19, .bipush (-7), 0, 0, 0, []), (21, .ireturn, 0, 0, 0, [])])
def mk_b1_2 : List Bool × List mj_I := ([true, true, true, true, false], [(22, .aload_n 0, 0, 0, 0, []), (23, .iload_n 1, 1, 0, 0, []), (24, .iload_n 2, 2, 0, 0, []), (25, .invokevirtual 117, 52, 3, 1, []), (28, .istore 4, 4, 0, 0, []), (30, .iload_n 2, 2, 0, 0, []), (31, .lookupswitch (51) #[(0, 25), (1, 38)], 5, 0, 0, [(0, 3), (1, 4)])])
def mk_b1_3 : List Bool × List mj_I := ([true, true, false, true, true], [(56, .aload_n 0, 0, 0, 0, []), (57, .getfield 10, 0, 7, 0, []), (60, .getfield 99, 1, 3, 0, []), (63, .iload_n 1, 1, 0, 0, []), (64, .iload_n 3, 3, 0, 0, []), (65, .iastore, 0, 0, 0, []), (66, .goto (26), 6, 0, 0, [])])
def mk_b1_4 : List Bool × List mj_I := ([true, true, false, true, true], [(69, .aload_n 0, 0, 0, 0, []), (70, .getfield 10, 0, 7, 0, []), (73, .getfield 103, 2, 3, 0, []), (76, .iload_n 1, 1, 0, 0, []), (77, .iload_n 3, 3, 0, 0, []), (78, .iastore, 0, 0, 0, []), (79, .goto (13), 6, 0, 0, [])])
def mk_b1_5 : List Bool × List mj_I := ([true, true, false, true, true], [(82, .aload_n 0, 0, 0, 0, []), (83, .getfield 10, 0, 7, 0, []), (86, .getfield 106, 3, 3, 0, []), (89, .iload_n 1, 1, 0, 0, []), (90, .iload_n 3, 3, 0, 0, []), (91, .iastore, 0, 0, 0, []), (92, .nop, 6, 0, 0, [])])
def mk_b1_6 : List Bool × List mj_I := ([false, false, false, false, true], [(92, .iload 4, 4, 0, 0, []), (94, .ireturn, 0, 0, 0, [])])
def mk_m1 : Nat × List (List Bool × List mj_I) := (5, [mk_b1_0, mk_b1_1, mk_b1_2, mk_b1_3, mk_b1_4, mk_b1_5, mk_b1_6])
/-- NumbersCalled.counterTold(II)I -/
def mk_b2_0 : List Bool × List mj_I := ([true, true, true], [(0, .aload_n 0, 0, 0, 0, []), (1, .iload_n 1, 1, 0, 0, []), (2, .invokevirtual 109, 49, 2, 1, []), (5, .ifCond .ne (6), 1, 0, 0, []), (8, .bipush (-5), 0, 0, 0, []), (10, .ireturn, 0, 0, 0, [])])
def mk_b2_1 : List Bool × List mj_I := ([true, true, true], [(11, .iload_n 2, 2, 0, 0, []), (12, .iconst 0, 0, 0, 0, []), (13, .iconst 2, 0, 0, 0, []), (14, .invokestatic 92, 44, 3, 1, []), (17, .ifCond .eq (12), 2, 0, 0, []), (20, .aload_n 0, 0, 0, 0, []), (21, .iload_n 1, 1, 0, 0, []), (22, .iload_n 2, 2, 0, 0, []), (23, .invokevirtual 117, 52, 3, 1, []), (26, .goto (5), 3, 0, 0, [])])
def mk_b2_2 : List Bool × List mj_I := ([false, false, false], [(29, .bipush (-7), 0, 0, 0, []), (31, .nop, 3, 0, 0, [])])
def mk_b2_3 : List Bool × List mj_I := ([false, false, false], [(31, .ireturn, 0, 0, 0, [])])
def mk_m2 : Nat × List (List Bool × List mj_I) := (3, [mk_b2_0, mk_b2_1, mk_b2_2, mk_b2_3])
/-- NumbersCalled.set(II)I -/
def mk_b3_0 : List Bool × List mj_I := ([true, true, true, false], [(0, .iload_n 1, 1, 0, 0, []), (1, .iconst 0, 0, 0, 0, []), (2, .iconst 2, 0, 0, 0, []), (3, .invokestatic 92, 44, 3, 1, []), (6, .ifCond .ne (5), 1, 0, 0, []), (9, .iconst (-1), 0, 0, 0, []), (10, .ireturn, 0, 0, 0, [])])
def mk_b3_1 : List Bool × List mj_I := ([true, true, true, false], [(11, .iload_n 1, 1, 0, 0, []), (12, .iload_n 2, 2, 0, 0, []), (13, .invokestatic 121, 53, 2, 1, []), (16, .ifCond .ne (6), 2, 0, 0, []), (19, .bipush (-2), 0, 0, 0, []), (21, .ireturn, 0, 0, 0, [])])
def mk_b3_2 : List Bool × List mj_I := ([true, true, true, false], [(22, .aload_n 0, 0, 0, 0, []), (23, .iload_n 1, 1, 0, 0, []), (24, .invokevirtual 124, 54, 2, 1, []), (27, .istore_n 3, 3, 0, 0, []), (28, .iload_n 1, 1, 0, 0, []), (29, .lookupswitch (49) #[(0, 27), (1, 38)], 5, 0, 0, [(0, 3), (1, 4)])])
def mk_b3_3 : List Bool × List mj_I := ([true, false, true, true], [(56, .aload_n 0, 0, 0, 0, []), (57, .getfield 10, 0, 7, 0, []), (60, .iload_n 2, 2, 0, 0, []), (61, .putfield 128, 6, 3, 0, []), (64, .goto (22), 6, 0, 0, [])])
def mk_b3_4 : List Bool × List mj_I := ([true, false, true, true], [(67, .aload_n 0, 0, 0, 0, []), (68, .getfield 10, 0, 7, 0, []), (71, .iload_n 2, 2, 0, 0, []), (72, .putfield 131, 7, 3, 0, []), (75, .goto (11), 6, 0, 0, [])])
def mk_b3_5 : List Bool × List mj_I := ([true, false, true, true], [(78, .aload_n 0, 0, 0, 0, []), (79, .getfield 10, 0, 7, 0, []), (82, .iload_n 2, 2, 0, 0, []), (83, .putfield 134, 8, 3, 0, []), (86, .nop, 6, 0, 0, [])])
def mk_b3_6 : List Bool × List mj_I := ([false, false, false, true], [(86, .iload_n 3, 3, 0, 0, []), (87, .ireturn, 0, 0, 0, [])])
def mk_m3 : Nat × List (List Bool × List mj_I) := (4, [mk_b3_0, mk_b3_1, mk_b3_2, mk_b3_3, mk_b3_4, mk_b3_5, mk_b3_6])
/-- NumbersCalled.count(I)I -/
def mk_b4_0 : List Bool × List mj_I := ([true, true], [(0, .iload_n 1, 1, 0, 0, []), (1, .tableswitch (90) 0 7 #[47, 47, 47, 53, 61, 69, 74, 82], 7, 0, 0, [(0, 1), (1, 1), (2, 1), (3, 2), (4, 3), (5, 4), (6, 5), (7, 6)])])
def mk_b4_1 : List Bool × List mj_I := ([true, true], [(48, .aload_n 0, 0, 0, 0, []), (49, .iload_n 1, 1, 0, 0, []), (50, .invokevirtual 124, 54, 2, 1, []), (53, .ireturn, 0, 0, 0, [])])
def mk_b4_2 : List Bool × List mj_I := ([true, false], [(54, .aload_n 0, 0, 0, 0, []), (55, .getfield 10, 0, 7, 0, []), (58, .getfield 96, 0, 3, 0, []), (61, .ireturn, 0, 0, 0, [])])
def mk_b4_3 : List Bool × List mj_I := ([true, false], [(62, .aload_n 0, 0, 0, 0, []), (63, .getfield 10, 0, 7, 0, []), (66, .getfield 137, 4, 3, 0, []), (69, .ireturn, 0, 0, 0, [])])
def mk_b4_4 : List Bool × List mj_I := ([true, false], [(70, .aload_n 0, 0, 0, 0, []), (71, .getfield 35, 5, 7, 0, []), (74, .ireturn, 0, 0, 0, [])])
def mk_b4_5 : List Bool × List mj_I := ([true, false], [(75, .aload_n 0, 0, 0, 0, []), (76, .getfield 10, 0, 7, 0, []), (79, .getfield 139, 9, 3, 0, []), (82, .ireturn, 0, 0, 0, [])])
def mk_b4_6 : List Bool × List mj_I := ([true, false], [(83, .aload_n 0, 0, 0, 0, []), (84, .getfield 42, 6, 7, 0, []), (87, .getfield 142, 1, 5, 0, []), (90, .ireturn, 0, 0, 0, [])])
def mk_b4_7 : List Bool × List mj_I := ([false, false], [(91, .bipush (-2), 0, 0, 0, []), (93, .ireturn, 0, 0, 0, [])])
def mk_m4 : Nat × List (List Bool × List mj_I) := (2, [mk_b4_0, mk_b4_1, mk_b4_2, mk_b4_3, mk_b4_4, mk_b4_5, mk_b4_6, mk_b4_7])
/-- NumbersCalled.feed(IIIIII)I -/
def mk_b5_0 : List Bool × List mj_I := ([true, true, true, true, true, true, true, false], [(0, .iload_n 1, 1, 0, 0, []), (1, .iconst 1, 0, 0, 0, []), (2, .iconst 5, 0, 0, 0, []), (3, .invokestatic 92, 44, 3, 1, []), (6, .ifCond .eq (41), 1, 0, 0, []), (9, .iload_n 2, 2, 0, 0, []), (10, .invokestatic 145, 46, 1, 1, []), (13, .ifCond .eq (34), 1, 0, 0, []), (16, .iload_n 3, 3, 0, 0, []), (17, .invokestatic 145, 46, 1, 1, []), (20, .ifCond .eq (27), 1, 0, 0, []), (23, .iload 4, 4, 0, 0, []), (25, .invokestatic 145, 46, 1, 1, []), (28, .ifCond .eq (19), 1, 0, 0, []), (31, .iload 5, 5, 0, 0, []), (33, .invokestatic 145, 46, 1, 1, []), (36, .ifCond .eq (11), 1, 0, 0, []), (39, .iload 6, 6, 0, 0, []), (41, .invokestatic 145, 46, 1, 1, []), (44, .ifCond .ne (6), 2, 0, 0, []), (47, .nop, 1, 0, 0, [])])
def mk_b5_1 : List Bool × List mj_I := ([false, false, false, false, false, false, false, false], [(47, .bipush (-2), 0, 0, 0, []), (49, .ireturn, 0, 0, 0, [])])
def mk_b5_2 : List Bool × List mj_I := ([true, true, true, true, true, true, true, false], [(50, .iload_n 1, 1, 0, 0, []), (51, .sipush 160, 0, 0, 0, []), (54, .aload_n 0, 0, 0, 0, []), (55, .getfield 42, 6, 7, 0, []), (58, .getfield 142, 1, 5, 0, []), (61, .isub, 0, 0, 0, []), (62, .if_icmp .le (6), 3, 0, 0, []), (65, .bipush (-4), 0, 0, 0, []), (67, .ireturn, 0, 0, 0, [])])
def mk_b5_3 : List Bool × List mj_I := ([true, true, true, true, true, true, true, false], [(68, .iconst 0, 0, 0, 0, []), (69, .istore 7, 7, 0, 0, []), (71, .nop, 4, 0, 0, [])])
def mk_b5_4 : List Bool × List mj_I := ([true, true, true, true, true, true, true, true], [(71, .iload 7, 7, 0, 0, []), (73, .iload_n 1, 1, 0, 0, []), (74, .if_icmp .ge (95), 11, 0, 0, []), (77, .iload 7, 7, 0, 0, []), (79, .tableswitch (75) 0 3 #[29, 40, 51, 63], 9, 0, 0, [(0, 5), (1, 6), (2, 7), (3, 8)])])
def mk_b5_5 : List Bool × List mj_I := ([true, true, true, true, true, true, true, true], [(108, .aload_n 0, 0, 0, 0, []), (109, .getfield 42, 6, 7, 0, []), (112, .iload_n 2, 2, 0, 0, []), (113, .invokevirtual 85, 197, 2, 0, []), (116, .goto (47), 10, 0, 0, [])])
def mk_b5_6 : List Bool × List mj_I := ([true, true, true, true, true, true, true, true], [(119, .aload_n 0, 0, 0, 0, []), (120, .getfield 42, 6, 7, 0, []), (123, .iload_n 3, 3, 0, 0, []), (124, .invokevirtual 85, 197, 2, 0, []), (127, .goto (36), 10, 0, 0, [])])
def mk_b5_7 : List Bool × List mj_I := ([true, true, true, true, true, true, true, true], [(130, .aload_n 0, 0, 0, 0, []), (131, .getfield 42, 6, 7, 0, []), (134, .iload 4, 4, 0, 0, []), (136, .invokevirtual 85, 197, 2, 0, []), (139, .goto (24), 10, 0, 0, [])])
def mk_b5_8 : List Bool × List mj_I := ([true, true, true, true, true, true, true, true], [(142, .aload_n 0, 0, 0, 0, []), (143, .getfield 42, 6, 7, 0, []), (146, .iload 5, 5, 0, 0, []), (148, .invokevirtual 85, 197, 2, 0, []), (151, .goto (12), 10, 0, 0, [])])
def mk_b5_9 : List Bool × List mj_I := ([true, true, true, true, true, true, true, true], [(154, .aload_n 0, 0, 0, 0, []), (155, .getfield 42, 6, 7, 0, []), (158, .iload 6, 6, 0, 0, []), (160, .invokevirtual 85, 197, 2, 0, []), (163, .nop, 10, 0, 0, [])])
def mk_b5_10 : List Bool × List mj_I := ([true, true, true, true, true, true, true, true], [(163, .iinc 7 1, 7, 0, 0, []), (166, .goto (-95), 4, 0, 0, [])])
def mk_b5_11 : List Bool × List mj_I := ([true, false, false, false, false, false, false, false], [(169, .aload_n 0, 0, 0, 0, []), (170, .getfield 42, 6, 7, 0, []), (173, .getfield 142, 1, 5, 0, []), (176, .ireturn, 0, 0, 0, [])])
def mk_m5 : Nat × List (List Bool × List mj_I) := (8, [mk_b5_0, mk_b5_1, mk_b5_2, mk_b5_3, mk_b5_4, mk_b5_5, mk_b5_6, mk_b5_7, mk_b5_8, mk_b5_9, mk_b5_10, mk_b5_11])
/-- NumbersCalled.text()I -/
def mk_b6_0 : List Bool × List mj_I := ([true, false], [(0, .aload_n 0, 0, 0, 0, []), (1, .getfield 35, 5, 7, 0, []), (4, .bipush 6, 0, 0, 0, []), (6, .if_icmp .lt (6), 1, 0, 0, []), (9, .bipush (-4), 0, 0, 0, []), (11, .ireturn, 0, 0, 0, [])])
def mk_b6_1 : List Bool × List mj_I := ([true, false], [(12, .aload_n 0, 0, 0, 0, []), (13, .getfield 42, 6, 7, 0, []), (16, .invokevirtual 148, 198, 1, 1, []), (19, .istore_n 1, 1, 0, 0, []), (20, .aload_n 0, 0, 0, 0, []), (21, .getfield 42, 6, 7, 0, []), (24, .iconst 0, 0, 0, 0, []), (25, .putfield 142, 1, 5, 0, []), (28, .iload_n 1, 1, 0, 0, []), (29, .iconst (-1), 0, 0, 0, []), (30, .if_icmp .eq (8), 2, 0, 0, []), (33, .bipush (-100), 0, 0, 0, []), (35, .iload_n 1, 1, 0, 0, []), (36, .isub, 0, 0, 0, []), (37, .ireturn, 0, 0, 0, [])])
def mk_b6_2 : List Bool × List mj_I := ([true, false], [(38, .aload_n 0, 0, 0, 0, []), (39, .getfield 31, 4, 7, 0, []), (42, .aload_n 0, 0, 0, 0, []), (43, .getfield 35, 5, 7, 0, []), (46, .aaload, 0, 0, 0, []), (47, .aload_n 0, 0, 0, 0, []), (48, .getfield 42, 6, 7, 0, []), (51, .invokevirtual 151, 214, 2, 0, []), (54, .aload_n 0, 0, 0, 0, []), (55, .dup, 0, 0, 0, []), (56, .getfield 35, 5, 7, 0, []), (59, .iconst 1, 0, 0, 0, []), (60, .iadd, 0, 0, 0, []), (61, .putfield 35, 5, 7, 0, []), (64, .aload_n 0, 0, 0, 0, []), (65, .getfield 35, 5, 7, 0, []), (68, .iconst 1, 0, 0, 0, []), (69, .isub, 0, 0, 0, []), (70, .ireturn, 0, 0, 0, [])])
def mk_m6 : Nat × List (List Bool × List mj_I) := (2, [mk_b6_0, mk_b6_1, mk_b6_2])
/-- NumbersCalled.force(I)I -/
def mk_b7_0 : List Bool × List mj_I := ([true, true, false], [(0, .iload_n 1, 1, 0, 0, []), (1, .iconst 0, 0, 0, 0, []), (2, .aload_n 0, 0, 0, 0, []), (3, .getfield 35, 5, 7, 0, []), (6, .iconst 1, 0, 0, 0, []), (7, .isub, 0, 0, 0, []), (8, .invokestatic 92, 44, 3, 1, []), (11, .ifCond .ne (6), 1, 0, 0, []), (14, .bipush (-2), 0, 0, 0, []), (16, .ireturn, 0, 0, 0, [])])
def mk_b7_1 : List Bool × List mj_I := ([true, true, false], [(17, .aload_n 0, 0, 0, 0, []), (18, .getfield 10, 0, 7, 0, []), (21, .getfield 139, 9, 3, 0, []), (24, .istore_n 2, 2, 0, 0, []), (25, .aload_n 0, 0, 0, 0, []), (26, .getfield 10, 0, 7, 0, []), (29, .iload_n 1, 1, 0, 0, []), (30, .putfield 139, 9, 3, 0, []), (33, .iload_n 2, 2, 0, 0, []), (34, .ireturn, 0, 0, 0, [])])
def mk_m7 : Nat × List (List Bool × List mj_I) := (3, [mk_b7_0, mk_b7_1])
/-- NumbersCalled.pull(III)I -/
def mk_b8_0 : List Bool × List mj_I := ([true, true, true, true, false], [(0, .iload_n 1, 1, 0, 0, []), (1, .iconst 0, 0, 0, 0, []), (2, .iconst 5, 0, 0, 0, []), (3, .invokestatic 92, 44, 3, 1, []), (6, .ifCond .eq (20), 1, 0, 0, []), (9, .iload_n 3, 3, 0, 0, []), (10, .iconst 0, 0, 0, 0, []), (11, .bipush 119, 0, 0, 0, []), (13, .invokestatic 92, 44, 3, 1, []), (16, .ifCond .eq (10), 1, 0, 0, []), (19, .iload_n 2, 2, 0, 0, []), (20, .invokestatic 155, 47, 1, 1, []), (23, .ifCond .ne (6), 2, 0, 0, []), (26, .nop, 1, 0, 0, [])])
def mk_b8_1 : List Bool × List mj_I := ([false, false, false, false, false], [(26, .bipush (-2), 0, 0, 0, []), (28, .ireturn, 0, 0, 0, [])])
def mk_b8_2 : List Bool × List mj_I := ([true, true, true, true, false], [(29, .aload_n 0, 0, 0, 0, []), (30, .getfield 10, 0, 7, 0, []), (33, .getfield 137, 4, 3, 0, []), (36, .bipush 16, 0, 0, 0, []), (38, .if_icmp .lt (6), 3, 0, 0, []), (41, .bipush (-4), 0, 0, 0, []), (43, .ireturn, 0, 0, 0, [])])
def mk_b8_3 : List Bool × List mj_I := ([true, true, true, true, false], [(44, .aload_n 0, 0, 0, 0, []), (45, .getfield 10, 0, 7, 0, []), (48, .getfield 137, 4, 3, 0, []), (51, .istore 4, 4, 0, 0, []), (53, .aload_n 0, 0, 0, 0, []), (54, .getfield 25, 3, 7, 0, []), (57, .iload 4, 4, 0, 0, []), (59, .aaload, 0, 0, 0, []), (60, .iload_n 1, 1, 0, 0, []), (61, .iload_n 2, 2, 0, 0, []), (62, .sipush 1000, 0, 0, 0, []), (65, .idiv, 0, 0, 0, []), (66, .iload_n 2, 2, 0, 0, []), (67, .bipush 10, 0, 0, 0, []), (69, .idiv, 0, 0, 0, []), (70, .bipush 100, 0, 0, 0, []), (72, .irem, 0, 0, 0, []), (73, .iload_n 2, 2, 0, 0, []), (74, .bipush 10, 0, 0, 0, []), (76, .irem, 0, 0, 0, []), (77, .invokevirtual 158, 163, 5, 0, []), (80, .aload_n 0, 0, 0, 0, []), (81, .getfield 10, 0, 7, 0, []), (84, .getfield 161, 5, 3, 0, []), (87, .iload 4, 4, 0, 0, []), (89, .iload_n 3, 3, 0, 0, []), (90, .iastore, 0, 0, 0, []), (91, .aload_n 0, 0, 0, 0, []), (92, .getfield 10, 0, 7, 0, []), (95, .dup, 0, 0, 0, []), (96, .getfield 137, 4, 3, 0, []), (99, .iconst 1, 0, 0, 0, []), (100, .iadd, 0, 0, 0, []), (101, .putfield 137, 4, 3, 0, []), (104, .iload 4, 4, 0, 0, []), (106, .ireturn, 0, 0, 0, [])])
def mk_m8 : Nat × List (List Bool × List mj_I) := (5, [mk_b8_0, mk_b8_1, mk_b8_2, mk_b8_3])
/-- NumbersCalled.move(II)I -/
def mk_b9_0 : List Bool × List mj_I := ([true, true, true, false], [(0, .aload_n 0, 0, 0, 0, []), (1, .iload_n 1, 1, 0, 0, []), (2, .invokevirtual 164, 50, 2, 1, []), (5, .ifCond .ne (6), 1, 0, 0, []), (8, .bipush (-5), 0, 0, 0, []), (10, .ireturn, 0, 0, 0, [])])
def mk_b9_1 : List Bool × List mj_I := ([true, true, true, false], [(11, .iload_n 2, 2, 0, 0, []), (12, .iconst 0, 0, 0, 0, []), (13, .bipush 119, 0, 0, 0, []), (15, .invokestatic 92, 44, 3, 1, []), (18, .ifCond .ne (6), 2, 0, 0, []), (21, .bipush (-7), 0, 0, 0, []), (23, .ireturn, 0, 0, 0, [])])
def mk_b9_2 : List Bool × List mj_I := ([true, true, true, false], [(24, .aload_n 0, 0, 0, 0, []), (25, .getfield 10, 0, 7, 0, []), (28, .getfield 161, 5, 3, 0, []), (31, .iload_n 1, 1, 0, 0, []), (32, .iaload, 0, 0, 0, []), (33, .istore_n 3, 3, 0, 0, []), (34, .aload_n 0, 0, 0, 0, []), (35, .getfield 10, 0, 7, 0, []), (38, .getfield 161, 5, 3, 0, []), (41, .iload_n 1, 1, 0, 0, []), (42, .iload_n 2, 2, 0, 0, []), (43, .iastore, 0, 0, 0, []), (44, .iload_n 3, 3, 0, 0, []), (45, .ireturn, 0, 0, 0, [])])
def mk_m9 : Nat × List (List Bool × List mj_I) := (4, [mk_b9_0, mk_b9_1, mk_b9_2])
/-- NumbersCalled.forget()I -/
def mk_b10_0 : List Bool × List mj_I := ([true], [(0, .aload_n 0, 0, 0, 0, []), (1, .getfield 10, 0, 7, 0, []), (4, .getfield 137, 4, 3, 0, []), (7, .ifCond .gt (6), 1, 0, 0, []), (10, .bipush (-3), 0, 0, 0, []), (12, .ireturn, 0, 0, 0, [])])
def mk_b10_1 : List Bool × List mj_I := ([true], [(13, .aload_n 0, 0, 0, 0, []), (14, .getfield 10, 0, 7, 0, []), (17, .dup, 0, 0, 0, []), (18, .getfield 137, 4, 3, 0, []), (21, .iconst 1, 0, 0, 0, []), (22, .isub, 0, 0, 0, []), (23, .putfield 137, 4, 3, 0, []), (26, .aload_n 0, 0, 0, 0, []), (27, .getfield 16, 1, 7, 0, []), (30, .getfield 137, 4, 3, 0, []), (33, .aload_n 0, 0, 0, 0, []), (34, .getfield 10, 0, 7, 0, []), (37, .getfield 137, 4, 3, 0, []), (40, .if_icmp .le (8), 2, 0, 0, []), (43, .aload_n 0, 0, 0, 0, []), (44, .iconst 0, 0, 0, 0, []), (45, .putfield 19, 2, 7, 1, []), (48, .nop, 2, 0, 0, [])])
def mk_b10_2 : List Bool × List mj_I := ([true], [(48, .aload_n 0, 0, 0, 0, []), (49, .getfield 10, 0, 7, 0, []), (52, .getfield 137, 4, 3, 0, []), (55, .ireturn, 0, 0, 0, [])])
def mk_m10 : Nat × List (List Bool × List mj_I) := (1, [mk_b10_0, mk_b10_1, mk_b10_2])
/-- NumbersCalled.told(II)I -/
def mk_b11_0 : List Bool × List mj_I := ([true, true, true], [(0, .aload_n 0, 0, 0, 0, []), (1, .iload_n 1, 1, 0, 0, []), (2, .invokevirtual 164, 50, 2, 1, []), (5, .ifCond .ne (6), 1, 0, 0, []), (8, .bipush (-5), 0, 0, 0, []), (10, .ireturn, 0, 0, 0, [])])
def mk_b11_1 : List Bool × List mj_I := ([true, true, true], [(11, .iload_n 2, 2, 0, 0, []), (12, .tableswitch (100) 0 5 #[40, 50, 60, 70, 80, 90], 8, 0, 0, [(0, 2), (1, 3), (2, 4), (3, 5), (4, 6), (5, 7)])])
def mk_b11_2 : List Bool × List mj_I := ([true, true, false], [(52, .aload_n 0, 0, 0, 0, []), (53, .getfield 25, 3, 7, 0, []), (56, .iload_n 1, 1, 0, 0, []), (57, .aaload, 0, 0, 0, []), (58, .getfield 167, 0, 0, 0, []), (61, .ireturn, 0, 0, 0, [])])
def mk_b11_3 : List Bool × List mj_I := ([true, true, false], [(62, .aload_n 0, 0, 0, 0, []), (63, .getfield 25, 3, 7, 0, []), (66, .iload_n 1, 1, 0, 0, []), (67, .aaload, 0, 0, 0, []), (68, .getfield 170, 1, 0, 0, []), (71, .ireturn, 0, 0, 0, [])])
def mk_b11_4 : List Bool × List mj_I := ([true, true, false], [(72, .aload_n 0, 0, 0, 0, []), (73, .getfield 25, 3, 7, 0, []), (76, .iload_n 1, 1, 0, 0, []), (77, .aaload, 0, 0, 0, []), (78, .getfield 173, 2, 0, 0, []), (81, .ireturn, 0, 0, 0, [])])
def mk_b11_5 : List Bool × List mj_I := ([true, true, false], [(82, .aload_n 0, 0, 0, 0, []), (83, .getfield 25, 3, 7, 0, []), (86, .iload_n 1, 1, 0, 0, []), (87, .aaload, 0, 0, 0, []), (88, .getfield 176, 3, 0, 0, []), (91, .ireturn, 0, 0, 0, [])])
def mk_b11_6 : List Bool × List mj_I := ([true, true, false], [(92, .aload_n 0, 0, 0, 0, []), (93, .getfield 10, 0, 7, 0, []), (96, .getfield 161, 5, 3, 0, []), (99, .iload_n 1, 1, 0, 0, []), (100, .iaload, 0, 0, 0, []), (101, .ireturn, 0, 0, 0, [])])
def mk_b11_7 : List Bool × List mj_I := ([true, true, false], [(102, .aload_n 0, 0, 0, 0, []), (103, .getfield 25, 3, 7, 0, []), (106, .iload_n 1, 1, 0, 0, []), (107, .aaload, 0, 0, 0, []), (108, .invokevirtual 179, 167, 1, 1, []), (111, .ireturn, 0, 0, 0, [])])
def mk_b11_8 : List Bool × List mj_I := ([false, false, false], [(112, .bipush (-7), 0, 0, 0, []), (114, .ireturn, 0, 0, 0, [])])
def mk_m11 : Nat × List (List Bool × List mj_I) := (3, [mk_b11_0, mk_b11_1, mk_b11_2, mk_b11_3, mk_b11_4, mk_b11_5, mk_b11_6, mk_b11_7, mk_b11_8])
/-- NumbersCalled.asks(IIIII)I -/
def mk_b12_0 : List Bool × List mj_I := ([true, true, true, true, true, true, false], [(0, .aload_n 0, 0, 0, 0, []), (1, .iload_n 1, 1, 0, 0, []), (2, .invokevirtual 164, 50, 2, 1, []), (5, .ifCond .eq (11), 1, 0, 0, []), (8, .aload_n 0, 0, 0, 0, []), (9, .iload_n 2, 2, 0, 0, []), (10, .invokevirtual 109, 49, 2, 1, []), (13, .ifCond .ne (6), 2, 0, 0, []), (16, .nop, 1, 0, 0, [])])
def mk_b12_1 : List Bool × List mj_I := ([false, false, false, false, false, false, false], [(16, .bipush (-5), 0, 0, 0, []), (18, .ireturn, 0, 0, 0, [])])
def mk_b12_2 : List Bool × List mj_I := ([true, true, true, true, true, true, false], [(19, .iload_n 3, 3, 0, 0, []), (20, .iconst 0, 0, 0, 0, []), (21, .sipush 999, 0, 0, 0, []), (24, .invokestatic 92, 44, 3, 1, []), (27, .ifCond .eq (15), 3, 0, 0, []), (30, .iload 4, 4, 0, 0, []), (32, .iconst 0, 0, 0, 0, []), (33, .sipush 999, 0, 0, 0, []), (36, .invokestatic 92, 44, 3, 1, []), (39, .ifCond .ne (6), 4, 0, 0, []), (42, .nop, 3, 0, 0, [])])
def mk_b12_3 : List Bool × List mj_I := ([false, false, false, false, false, false, false], [(42, .bipush (-7), 0, 0, 0, []), (44, .ireturn, 0, 0, 0, [])])
def mk_b12_4 : List Bool × List mj_I := ([true, true, true, true, true, true, false], [(45, .aload_n 0, 0, 0, 0, []), (46, .getfield 31, 4, 7, 0, []), (49, .aload_n 0, 0, 0, 0, []), (50, .getfield 10, 0, 7, 0, []), (53, .getfield 139, 9, 3, 0, []), (56, .aaload, 0, 0, 0, []), (57, .astore 6, 6, 0, 0, []), (59, .iload 5, 5, 0, 0, []), (61, .tableswitch (109) 0 2 #[27, 61, 95], 10, 0, 0, [(0, 5), (1, 6), (2, 9)])])
def mk_b12_5 : List Bool × List mj_I := ([true, true, true, true, false, false, true], [(88, .aload_n 0, 0, 0, 0, []), (89, .getfield 25, 3, 7, 0, []), (92, .iload_n 1, 1, 0, 0, []), (93, .aaload, 0, 0, 0, []), (94, .aload 6, 6, 0, 0, []), (96, .iconst 0, 0, 0, 0, []), (97, .aload_n 0, 0, 0, 0, []), (98, .getfield 25, 3, 7, 0, []), (101, .iload_n 1, 1, 0, 0, []), (102, .aaload, 0, 0, 0, []), (103, .iload_n 3, 3, 0, 0, []), (104, .aload_n 0, 0, 0, 0, []), (105, .getfield 10, 0, 7, 0, []), (108, .getfield 103, 2, 3, 0, []), (111, .iload_n 2, 2, 0, 0, []), (112, .iaload, 0, 0, 0, []), (113, .iconst 0, 0, 0, 0, []), (114, .invokevirtual 182, 215, 6, 1, []), (117, .iconst 0, 0, 0, 0, []), (118, .invokevirtual 186, 169, 3, 1, []), (121, .ireturn, 0, 0, 0, [])])
def mk_b12_6 : List Bool × List mj_I := ([true, true, false, true, false, false, true], [(122, .aload_n 0, 0, 0, 0, []), (123, .getfield 25, 3, 7, 0, []), (126, .iload_n 1, 1, 0, 0, []), (127, .aaload, 0, 0, 0, []), (128, .iload_n 3, 3, 0, 0, []), (129, .aload 6, 6, 0, 0, []), (131, .iconst 1, 0, 0, 0, []), (132, .aload_n 0, 0, 0, 0, []), (133, .getfield 25, 3, 7, 0, []), (136, .iload_n 1, 1, 0, 0, []), (137, .aaload, 0, 0, 0, []), (138, .iload_n 3, 3, 0, 0, []), (139, .iconst 0, 0, 0, 0, []), (140, .iconst 0, 0, 0, 0, []), (141, .invokevirtual 182, 215, 6, 1, []), (144, .invokevirtual 190, 168, 3, 1, []), (147, .ifCond .eq (7), 7, 0, 0, []), (150, .iconst 1, 0, 0, 0, []), (151, .goto (4), 8, 0, 0, [])])
def mk_b12_7 : List Bool × List mj_I := ([false, false, false, false, false, false, false], [(154, .iconst 0, 0, 0, 0, []), (155, .nop, 8, 0, 0, [])])
def mk_b12_8 : List Bool × List mj_I := ([false, false, false, false, false, false, false], [(155, .ireturn, 0, 0, 0, [])])
def mk_b12_9 : List Bool × List mj_I := ([true, true, false, true, true, false, false], [(156, .aload_n 0, 0, 0, 0, []), (157, .aload_n 0, 0, 0, 0, []), (158, .getfield 25, 3, 7, 0, []), (161, .iload_n 1, 1, 0, 0, []), (162, .aaload, 0, 0, 0, []), (163, .iload_n 3, 3, 0, 0, []), (164, .iload 4, 4, 0, 0, []), (166, .invokevirtual 193, 64, 4, 1, []), (169, .ireturn, 0, 0, 0, [])])
def mk_b12_10 : List Bool × List mj_I := ([false, false, false, false, false, false, false], [(170, .bipush (-7), 0, 0, 0, []), (172, .ireturn, 0, 0, 0, [])])
def mk_m12 : Nat × List (List Bool × List mj_I) := (7, [mk_b12_0, mk_b12_1, mk_b12_2, mk_b12_3, mk_b12_4, mk_b12_5, mk_b12_6, mk_b12_7, mk_b12_8, mk_b12_9, mk_b12_10])
/-- NumbersCalled.of(II)I -/
def mk_b13_0 : List Bool × List mj_I := ([true, true, true], [(0, .aload_n 0, 0, 0, 0, []), (1, .iload_n 1, 1, 0, 0, []), (2, .invokevirtual 164, 50, 2, 1, []), (5, .ifCond .ne (6), 1, 0, 0, []), (8, .bipush (-5), 0, 0, 0, []), (10, .ireturn, 0, 0, 0, [])])
def mk_b13_1 : List Bool × List mj_I := ([true, true, true], [(11, .iload_n 2, 2, 0, 0, []), (12, .iconst 0, 0, 0, 0, []), (13, .iconst 5, 0, 0, 0, []), (14, .invokestatic 92, 44, 3, 1, []), (17, .ifCond .ne (6), 2, 0, 0, []), (20, .bipush (-7), 0, 0, 0, []), (22, .ireturn, 0, 0, 0, [])])
def mk_b13_2 : List Bool × List mj_I := ([true, true, true], [(23, .aload_n 0, 0, 0, 0, []), (24, .invokevirtual 197, 58, 1, 0, []), (27, .iload_n 2, 2, 0, 0, []), (28, .tableswitch (85) 0 4 #[36, 46, 56, 66, 76], 8, 0, 0, [(0, 3), (1, 4), (2, 5), (3, 6), (4, 7)])])
def mk_b13_3 : List Bool × List mj_I := ([true, true, false], [(64, .aload_n 0, 0, 0, 0, []), (65, .getfield 55, 8, 7, 0, []), (68, .getfield 200, 1, 1, 0, []), (71, .iload_n 1, 1, 0, 0, []), (72, .iaload, 0, 0, 0, []), (73, .ireturn, 0, 0, 0, [])])
def mk_b13_4 : List Bool × List mj_I := ([true, true, false], [(74, .aload_n 0, 0, 0, 0, []), (75, .getfield 55, 8, 7, 0, []), (78, .getfield 203, 2, 1, 0, []), (81, .iload_n 1, 1, 0, 0, []), (82, .iaload, 0, 0, 0, []), (83, .ireturn, 0, 0, 0, [])])
def mk_b13_5 : List Bool × List mj_I := ([true, true, false], [(84, .aload_n 0, 0, 0, 0, []), (85, .getfield 55, 8, 7, 0, []), (88, .getfield 206, 3, 1, 0, []), (91, .iload_n 1, 1, 0, 0, []), (92, .iaload, 0, 0, 0, []), (93, .ireturn, 0, 0, 0, [])])
def mk_b13_6 : List Bool × List mj_I := ([true, true, false], [(94, .aload_n 0, 0, 0, 0, []), (95, .getfield 55, 8, 7, 0, []), (98, .getfield 209, 4, 1, 0, []), (101, .iload_n 1, 1, 0, 0, []), (102, .iaload, 0, 0, 0, []), (103, .ireturn, 0, 0, 0, [])])
def mk_b13_7 : List Bool × List mj_I := ([true, true, false], [(104, .aload_n 0, 0, 0, 0, []), (105, .getfield 55, 8, 7, 0, []), (108, .iload_n 1, 1, 0, 0, []), (109, .invokevirtual 212, 178, 2, 1, []), (112, .ireturn, 0, 0, 0, [])])
def mk_b13_8 : List Bool × List mj_I := ([true, true, false], [(113, .aload_n 0, 0, 0, 0, []), (114, .getfield 55, 8, 7, 0, []), (117, .getfield 215, 5, 1, 0, []), (120, .iload_n 1, 1, 0, 0, []), (121, .iaload, 0, 0, 0, []), (122, .ireturn, 0, 0, 0, [])])
def mk_m13 : Nat × List (List Bool × List mj_I) := (3, [mk_b13_0, mk_b13_1, mk_b13_2, mk_b13_3, mk_b13_4, mk_b13_5, mk_b13_6, mk_b13_7, mk_b13_8])
/-- NumbersCalled.sum(I)I -/
def mk_b14_0 : List Bool × List mj_I := ([true, true], [(0, .iload_n 1, 1, 0, 0, []), (1, .iconst 0, 0, 0, 0, []), (2, .bipush 7, 0, 0, 0, []), (4, .invokestatic 92, 44, 3, 1, []), (7, .ifCond .ne (6), 1, 0, 0, []), (10, .bipush (-2), 0, 0, 0, []), (12, .ireturn, 0, 0, 0, [])])
def mk_b14_1 : List Bool × List mj_I := ([true, true], [(13, .aload_n 0, 0, 0, 0, []), (14, .invokevirtual 197, 58, 1, 0, []), (17, .aload_n 0, 0, 0, 0, []), (18, .getfield 55, 8, 7, 0, []), (21, .iload_n 1, 1, 0, 0, []), (22, .invokevirtual 218, 187, 2, 1, []), (25, .ireturn, 0, 0, 0, [])])
def mk_m14 : Nat × List (List Bool × List mj_I) := (2, [mk_b14_0, mk_b14_1])
/-- NumbersCalled.idle(I)I -/
def mk_b15_0 : List Bool × List mj_I := ([true, true], [(0, .aload_n 0, 0, 0, 0, []), (1, .iload_n 1, 1, 0, 0, []), (2, .invokevirtual 109, 49, 2, 1, []), (5, .ifCond .ne (6), 1, 0, 0, []), (8, .bipush (-5), 0, 0, 0, []), (10, .ireturn, 0, 0, 0, [])])
def mk_b15_1 : List Bool × List mj_I := ([true, true], [(11, .aload_n 0, 0, 0, 0, []), (12, .invokevirtual 197, 58, 1, 0, []), (15, .aload_n 0, 0, 0, 0, []), (16, .getfield 55, 8, 7, 0, []), (19, .getfield 221, 6, 1, 0, []), (22, .iload_n 1, 1, 0, 0, []), (23, .iaload, 0, 0, 0, []), (24, .ireturn, 0, 0, 0, [])])
def mk_m15 : Nat × List (List Bool × List mj_I) := (2, [mk_b15_0, mk_b15_1])
/-- NumbersCalled.harmed()I -/
def mk_b16_0 : List Bool × List mj_I := ([true], [(0, .aload_n 0, 0, 0, 0, []), (1, .invokevirtual 197, 58, 1, 0, []), (4, .aload_n 0, 0, 0, 0, []), (5, .getfield 55, 8, 7, 0, []), (8, .invokevirtual 224, 185, 1, 1, []), (11, .ireturn, 0, 0, 0, [])])
def mk_m16 : Nat × List (List Bool × List mj_I) := (1, [mk_b16_0])
/-- NumbersCalled.letter(II)I -/
def mk_b17_0 : List Bool × List mj_I := ([true, true, true, false], [(0, .aload_n 0, 0, 0, 0, []), (1, .iload_n 1, 1, 0, 0, []), (2, .invokevirtual 109, 49, 2, 1, []), (5, .ifCond .ne (6), 1, 0, 0, []), (8, .bipush (-5), 0, 0, 0, []), (10, .ireturn, 0, 0, 0, [])])
def mk_b17_1 : List Bool × List mj_I := ([true, true, true, false], [(11, .iload_n 2, 2, 0, 0, []), (12, .iconst 0, 0, 0, 0, []), (13, .iconst 1, 0, 0, 0, []), (14, .invokestatic 92, 44, 3, 1, []), (17, .ifCond .ne (6), 2, 0, 0, []), (20, .bipush (-7), 0, 0, 0, []), (22, .ireturn, 0, 0, 0, [])])
def mk_b17_2 : List Bool × List mj_I := ([true, true, true, false], [(23, .aload_n 0, 0, 0, 0, []), (24, .getfield 62, 9, 7, 0, []), (27, .invokevirtual 227, 188, 1, 0, []), (30, .aload_n 0, 0, 0, 0, []), (31, .invokevirtual 197, 58, 1, 0, []), (34, .aload_n 0, 0, 0, 0, []), (35, .getfield 62, 9, 7, 0, []), (38, .iconst (-1), 0, 0, 0, []), (39, .aload_n 0, 0, 0, 0, []), (40, .getfield 55, 8, 7, 0, []), (43, .invokevirtual 224, 185, 1, 1, []), (46, .invokevirtual 230, 189, 3, 0, []), (49, .iconst 0, 0, 0, 0, []), (50, .istore_n 3, 3, 0, 0, []), (51, .nop, 3, 0, 0, [])])
def mk_b17_3 : List Bool × List mj_I := ([true, true, true, true], [(51, .iload_n 3, 3, 0, 0, []), (52, .iconst 4, 0, 0, 0, []), (53, .if_icmp .ge (53), 4, 0, 0, []), (56, .aload_n 0, 0, 0, 0, []), (57, .getfield 55, 8, 7, 0, []), (60, .getfield 234, 0, 1, 0, []), (63, .getfield 99, 1, 3, 0, []), (66, .iload_n 1, 1, 0, 0, []), (67, .aload_n 0, 0, 0, 0, []), (68, .getfield 10, 0, 7, 0, []), (71, .getfield 99, 1, 3, 0, []), (74, .iload_n 1, 1, 0, 0, []), (75, .iaload, 0, 0, 0, []), (76, .iconst 1, 0, 0, 0, []), (77, .iload_n 3, 3, 0, 0, []), (78, .ishl, 0, 0, 0, []), (79, .ior, 0, 0, 0, []), (80, .iastore, 0, 0, 0, []), (81, .aload_n 0, 0, 0, 0, []), (82, .invokevirtual 237, 57, 1, 0, []), (85, .aload_n 0, 0, 0, 0, []), (86, .getfield 62, 9, 7, 0, []), (89, .iload_n 3, 3, 0, 0, []), (90, .aload_n 0, 0, 0, 0, []), (91, .getfield 55, 8, 7, 0, []), (94, .invokevirtual 224, 185, 1, 1, []), (97, .invokevirtual 230, 189, 3, 0, []), (100, .iinc 3 1, 3, 0, 0, []), (103, .goto (-52), 3, 0, 0, [])])
def mk_b17_4 : List Bool × List mj_I := ([true, false, true, false], [(106, .aload_n 0, 0, 0, 0, []), (107, .getfield 62, 9, 7, 0, []), (110, .iload_n 2, 2, 0, 0, []), (111, .invokevirtual 240, 190, 2, 1, []), (114, .ireturn, 0, 0, 0, [])])
def mk_m17 : Nat × List (List Bool × List mj_I) := (4, [mk_b17_0, mk_b17_1, mk_b17_2, mk_b17_3, mk_b17_4])
/-- NumbersCalled.train(II)I -/
def mk_b18_0 : List Bool × List mj_I := ([true, true, true, false, false, false], [(0, .iload_n 1, 1, 0, 0, []), (1, .iconst 0, 0, 0, 0, []), (2, .sipush 999, 0, 0, 0, []), (5, .invokestatic 92, 44, 3, 1, []), (8, .ifCond .eq (12), 1, 0, 0, []), (11, .iload_n 2, 2, 0, 0, []), (12, .iconst 0, 0, 0, 0, []), (13, .iconst 1, 0, 0, 0, []), (14, .invokestatic 92, 44, 3, 1, []), (17, .ifCond .ne (6), 2, 0, 0, []), (20, .nop, 1, 0, 0, [])])
def mk_b18_1 : List Bool × List mj_I := ([false, false, false, false, false, false], [(20, .bipush (-2), 0, 0, 0, []), (22, .ireturn, 0, 0, 0, [])])
def mk_b18_2 : List Bool × List mj_I := ([true, true, true, false, false, false], [(23, .aload_n 0, 0, 0, 0, []), (24, .iconst (-1), 0, 0, 0, []), (25, .iconst (-1), 0, 0, 0, []), (26, .iload_n 1, 1, 0, 0, []), (27, .invokevirtual 243, 60, 4, 1, []), (30, .ifCond .eq (13), 5, 0, 0, []), (33, .iload_n 2, 2, 0, 0, []), (34, .ifCond .ne (7), 3, 0, 0, []), (37, .iconst 0, 0, 0, 0, []), (38, .goto (4), 4, 0, 0, [])])
def mk_b18_3 : List Bool × List mj_I := ([false, false, false, false, false, false], [(41, .iconst (-1), 0, 0, 0, []), (42, .nop, 4, 0, 0, [])])
def mk_b18_4 : List Bool × List mj_I := ([false, false, false, false, false, false], [(42, .ireturn, 0, 0, 0, [])])
def mk_b18_5 : List Bool × List mj_I := ([true, true, true, false, false, false], [(43, .aload_n 0, 0, 0, 0, []), (44, .getfield 10, 0, 7, 0, []), (47, .getfield 96, 0, 3, 0, []), (50, .iconst 4, 0, 0, 0, []), (51, .imul, 0, 0, 0, []), (52, .istore_n 3, 3, 0, 0, []), (53, .iconst 0, 0, 0, 0, []), (54, .istore 4, 4, 0, 0, []), (56, .nop, 6, 0, 0, [])])
def mk_b18_6 : List Bool × List mj_I := ([true, true, true, true, true, false], [(56, .iload 4, 4, 0, 0, []), (58, .iload_n 3, 3, 0, 0, []), (59, .if_icmp .ge (34), 10, 0, 0, []), (62, .aload_n 0, 0, 0, 0, []), (63, .iload 4, 4, 0, 0, []), (65, .iconst (-1), 0, 0, 0, []), (66, .iload_n 1, 1, 0, 0, []), (67, .invokevirtual 243, 60, 4, 1, []), (70, .ifCond .eq (17), 9, 0, 0, []), (73, .iload_n 2, 2, 0, 0, []), (74, .ifCond .ne (7), 7, 0, 0, []), (77, .iconst 1, 0, 0, 0, []), (78, .goto (8), 8, 0, 0, [])])
def mk_b18_7 : List Bool × List mj_I := ([false, false, false, false, true, false], [(81, .iload 4, 4, 0, 0, []), (83, .invokestatic 246, 61, 1, 1, []), (86, .nop, 8, 0, 0, [])])
def mk_b18_8 : List Bool × List mj_I := ([false, false, false, false, false, false], [(86, .ireturn, 0, 0, 0, [])])
def mk_b18_9 : List Bool × List mj_I := ([true, true, true, true, true, false], [(87, .iinc 4 1, 4, 0, 0, []), (90, .goto (-34), 6, 0, 0, [])])
def mk_b18_10 : List Bool × List mj_I := ([true, true, true, true, false, false], [(93, .iconst 0, 0, 0, 0, []), (94, .istore 4, 4, 0, 0, []), (96, .nop, 11, 0, 0, [])])
def mk_b18_11 : List Bool × List mj_I := ([true, true, true, true, true, false], [(96, .iload 4, 4, 0, 0, []), (98, .iload_n 3, 3, 0, 0, []), (99, .if_icmp .ge (62), 17, 0, 0, []), (102, .iload 4, 4, 0, 0, []), (104, .iconst 1, 0, 0, 0, []), (105, .iadd, 0, 0, 0, []), (106, .istore 5, 5, 0, 0, []), (108, .nop, 12, 0, 0, [])])
def mk_b18_12 : List Bool × List mj_I := ([true, true, true, true, true, true], [(108, .iload 5, 5, 0, 0, []), (110, .iload_n 3, 3, 0, 0, []), (111, .if_icmp .ge (44), 16, 0, 0, []), (114, .aload_n 0, 0, 0, 0, []), (115, .iload 4, 4, 0, 0, []), (117, .iload 5, 5, 0, 0, []), (119, .iload_n 1, 1, 0, 0, []), (120, .invokevirtual 243, 60, 4, 1, []), (123, .ifCond .eq (26), 15, 0, 0, []), (126, .iload_n 2, 2, 0, 0, []), (127, .ifCond .ne (7), 13, 0, 0, []), (130, .iconst 2, 0, 0, 0, []), (131, .goto (17), 14, 0, 0, [])])
def mk_b18_13 : List Bool × List mj_I := ([false, false, false, false, true, true], [(134, .iload 4, 4, 0, 0, []), (136, .invokestatic 246, 61, 1, 1, []), (139, .bipush 100, 0, 0, 0, []), (141, .imul, 0, 0, 0, []), (142, .iload 5, 5, 0, 0, []), (144, .invokestatic 246, 61, 1, 1, []), (147, .iadd, 0, 0, 0, []), (148, .nop, 14, 0, 0, [])])
def mk_b18_14 : List Bool × List mj_I := ([false, false, false, false, false, false], [(148, .ireturn, 0, 0, 0, [])])
def mk_b18_15 : List Bool × List mj_I := ([true, true, true, true, true, true], [(149, .iinc 5 1, 5, 0, 0, []), (152, .goto (-44), 12, 0, 0, [])])
def mk_b18_16 : List Bool × List mj_I := ([true, true, true, true, true, false], [(155, .iinc 4 1, 4, 0, 0, []), (158, .goto (-62), 11, 0, 0, [])])
def mk_b18_17 : List Bool × List mj_I := ([false, false, false, false, false, false], [(161, .iconst (-1), 0, 0, 0, []), (162, .ireturn, 0, 0, 0, [])])
def mk_m18 : Nat × List (List Bool × List mj_I) := (6, [mk_b18_0, mk_b18_1, mk_b18_2, mk_b18_3, mk_b18_4, mk_b18_5, mk_b18_6, mk_b18_7, mk_b18_8, mk_b18_9, mk_b18_10, mk_b18_11, mk_b18_12, mk_b18_13, mk_b18_14, mk_b18_15, mk_b18_16, mk_b18_17])
/-- NumbersCalled.rest(II)I -/
def mk_b19_0 : List Bool × List mj_I := ([true, true, true, false], [(0, .aload_n 0, 0, 0, 0, []), (1, .iload_n 1, 1, 0, 0, []), (2, .invokevirtual 109, 49, 2, 1, []), (5, .ifCond .ne (6), 1, 0, 0, []), (8, .bipush (-5), 0, 0, 0, []), (10, .ireturn, 0, 0, 0, [])])
def mk_b19_1 : List Bool × List mj_I := ([true, true, true, false], [(11, .iload_n 2, 2, 0, 0, []), (12, .iconst 0, 0, 0, 0, []), (13, .iconst 1, 0, 0, 0, []), (14, .invokestatic 92, 44, 3, 1, []), (17, .ifCond .ne (6), 2, 0, 0, []), (20, .bipush (-7), 0, 0, 0, []), (22, .ireturn, 0, 0, 0, [])])
def mk_b19_2 : List Bool × List mj_I := ([true, true, true, false], [(23, .aload_n 0, 0, 0, 0, []), (24, .getfield 62, 9, 7, 0, []), (27, .invokevirtual 227, 188, 1, 0, []), (30, .aload_n 0, 0, 0, 0, []), (31, .invokevirtual 249, 56, 1, 0, []), (34, .iconst 0, 0, 0, 0, []), (35, .istore_n 3, 3, 0, 0, []), (36, .nop, 3, 0, 0, [])])
def mk_b19_3 : List Bool × List mj_I := ([true, true, true, true], [(36, .iload_n 3, 3, 0, 0, []), (37, .bipush 110, 0, 0, 0, []), (39, .if_icmp .gt (41), 4, 0, 0, []), (42, .aload_n 0, 0, 0, 0, []), (43, .getfield 55, 8, 7, 0, []), (46, .getfield 234, 0, 1, 0, []), (49, .getfield 106, 3, 3, 0, []), (52, .iload_n 1, 1, 0, 0, []), (53, .iload_n 3, 3, 0, 0, []), (54, .iastore, 0, 0, 0, []), (55, .aload_n 0, 0, 0, 0, []), (56, .invokevirtual 237, 57, 1, 0, []), (59, .aload_n 0, 0, 0, 0, []), (60, .getfield 62, 9, 7, 0, []), (63, .iload_n 3, 3, 0, 0, []), (64, .aload_n 0, 0, 0, 0, []), (65, .getfield 55, 8, 7, 0, []), (68, .invokevirtual 224, 185, 1, 1, []), (71, .invokevirtual 230, 189, 3, 0, []), (74, .iinc 3 10, 3, 0, 0, []), (77, .goto (-41), 3, 0, 0, [])])
def mk_b19_4 : List Bool × List mj_I := ([true, false, true, false], [(80, .aload_n 0, 0, 0, 0, []), (81, .getfield 62, 9, 7, 0, []), (84, .iload_n 2, 2, 0, 0, []), (85, .invokevirtual 240, 190, 2, 1, []), (88, .ireturn, 0, 0, 0, [])])
def mk_m19 : Nat × List (List Bool × List mj_I) := (4, [mk_b19_0, mk_b19_1, mk_b19_2, mk_b19_3, mk_b19_4])
/-- NumbersCalled.stop(I)I -/
def mk_b20_0 : List Bool × List mj_I := ([true, true, false], [(0, .iload_n 1, 1, 0, 0, []), (1, .iconst 0, 0, 0, 0, []), (2, .sipush 999, 0, 0, 0, []), (5, .invokestatic 92, 44, 3, 1, []), (8, .ifCond .ne (6), 1, 0, 0, []), (11, .bipush (-2), 0, 0, 0, []), (13, .ireturn, 0, 0, 0, [])])
def mk_b20_1 : List Bool × List mj_I := ([true, true, false], [(14, .aload_n 0, 0, 0, 0, []), (15, .invokevirtual 249, 56, 1, 0, []), (18, .bipush 120, 0, 0, 0, []), (20, .istore_n 2, 2, 0, 0, []), (21, .nop, 2, 0, 0, [])])
def mk_b20_2 : List Bool × List mj_I := ([true, true, true], [(21, .iload_n 2, 2, 0, 0, []), (22, .ifCond .lt (54), 5, 0, 0, []), (25, .iload_n 2, 2, 0, 0, []), (26, .bipush 120, 0, 0, 0, []), (28, .if_icmp .ge (14), 3, 0, 0, []), (31, .aload_n 0, 0, 0, 0, []), (32, .iload_n 2, 2, 0, 0, []), (33, .invokevirtual 252, 62, 2, 1, []), (36, .ifCond .ne (6), 3, 0, 0, []), (39, .goto (31), 4, 0, 0, [])])
def mk_b20_3 : List Bool × List mj_I := ([true, true, true], [(42, .aload_n 0, 0, 0, 0, []), (43, .getfield 55, 8, 7, 0, []), (46, .getfield 234, 0, 1, 0, []), (49, .iload_n 2, 2, 0, 0, []), (50, .putfield 134, 8, 3, 0, []), (53, .aload_n 0, 0, 0, 0, []), (54, .invokevirtual 237, 57, 1, 0, []), (57, .aload_n 0, 0, 0, 0, []), (58, .getfield 55, 8, 7, 0, []), (61, .iload_n 1, 1, 0, 0, []), (62, .invokevirtual 255, 186, 2, 1, []), (65, .ifCond .eq (5), 4, 0, 0, []), (68, .iload_n 2, 2, 0, 0, []), (69, .ireturn, 0, 0, 0, [])])
def mk_b20_4 : List Bool × List mj_I := ([true, true, true], [(70, .iinc 2 (-1), 2, 0, 0, []), (73, .goto (-52), 2, 0, 0, [])])
def mk_b20_5 : List Bool × List mj_I := ([false, false, false], [(76, .iconst (-1), 0, 0, 0, []), (77, .ireturn, 0, 0, 0, [])])
def mk_m20 : Nat × List (List Bool × List mj_I) := (3, [mk_b20_0, mk_b20_1, mk_b20_2, mk_b20_3, mk_b20_4, mk_b20_5])
/-- NumbersCalled.call(I)I -/
def mk_b21_0 : List Bool × List mj_I := ([true, true, false], [(0, .iload_n 1, 1, 0, 0, []), (1, .iconst 0, 0, 0, 0, []), (2, .iconst 1, 0, 0, 0, []), (3, .invokestatic 92, 44, 3, 1, []), (6, .ifCond .ne (6), 1, 0, 0, []), (9, .bipush (-2), 0, 0, 0, []), (11, .ireturn, 0, 0, 0, [])])
def mk_b21_1 : List Bool × List mj_I := ([true, true, false], [(12, .aload_n 0, 0, 0, 0, []), (13, .getfield 62, 9, 7, 0, []), (16, .invokevirtual 227, 188, 1, 0, []), (19, .aload_n 0, 0, 0, 0, []), (20, .invokevirtual 249, 56, 1, 0, []), (23, .iconst 1, 0, 0, 0, []), (24, .istore_n 2, 2, 0, 0, []), (25, .nop, 2, 0, 0, [])])
def mk_b21_2 : List Bool × List mj_I := ([true, true, true], [(25, .iload_n 2, 2, 0, 0, []), (26, .bipush 9, 0, 0, 0, []), (28, .if_icmp .gt (39), 3, 0, 0, []), (31, .aload_n 0, 0, 0, 0, []), (32, .getfield 55, 8, 7, 0, []), (35, .getfield 234, 0, 1, 0, []), (38, .iload_n 2, 2, 0, 0, []), (39, .putfield 131, 7, 3, 0, []), (42, .aload_n 0, 0, 0, 0, []), (43, .invokevirtual 237, 57, 1, 0, []), (46, .aload_n 0, 0, 0, 0, []), (47, .getfield 62, 9, 7, 0, []), (50, .iload_n 2, 2, 0, 0, []), (51, .aload_n 0, 0, 0, 0, []), (52, .getfield 55, 8, 7, 0, []), (55, .invokevirtual 224, 185, 1, 1, []), (58, .invokevirtual 230, 189, 3, 0, []), (61, .iinc 2 1, 2, 0, 0, []), (64, .goto (-39), 2, 0, 0, [])])
def mk_b21_3 : List Bool × List mj_I := ([true, true, false], [(67, .aload_n 0, 0, 0, 0, []), (68, .getfield 62, 9, 7, 0, []), (71, .iload_n 1, 1, 0, 0, []), (72, .invokevirtual 240, 190, 2, 1, []), (75, .ireturn, 0, 0, 0, [])])
def mk_m21 : Nat × List (List Bool × List mj_I) := (3, [mk_b21_0, mk_b21_1, mk_b21_2, mk_b21_3])
/-- NumbersCalled.pay(I)I -/
def mk_b22_0 : List Bool × List mj_I := ([true, true, false], [(0, .iload_n 1, 1, 0, 0, []), (1, .iconst 1, 0, 0, 0, []), (2, .iconst 3, 0, 0, 0, []), (3, .invokestatic 92, 44, 3, 1, []), (6, .ifCond .ne (6), 1, 0, 0, []), (9, .bipush (-2), 0, 0, 0, []), (11, .ireturn, 0, 0, 0, [])])
def mk_b22_1 : List Bool × List mj_I := ([true, true, false], [(12, .aload_n 0, 0, 0, 0, []), (13, .invokevirtual 249, 56, 1, 0, []), (16, .aload_n 0, 0, 0, 0, []), (17, .getfield 55, 8, 7, 0, []), (20, .getfield 234, 0, 1, 0, []), (23, .iload_n 1, 1, 0, 0, []), (24, .putfield 128, 6, 3, 0, []), (27, .aload_n 0, 0, 0, 0, []), (28, .invokevirtual 237, 57, 1, 0, []), (31, .aload_n 0, 0, 0, 0, []), (32, .iload_n 1, 1, 0, 0, []), (33, .invokevirtual 258, 63, 2, 1, []), (36, .istore_n 2, 2, 0, 0, []), (37, .aload_n 0, 0, 0, 0, []), (38, .getfield 55, 8, 7, 0, []), (41, .getfield 234, 0, 1, 0, []), (44, .iconst 0, 0, 0, 0, []), (45, .putfield 128, 6, 3, 0, []), (48, .aload_n 0, 0, 0, 0, []), (49, .invokevirtual 237, 57, 1, 0, []), (52, .iload_n 2, 2, 0, 0, []), (53, .aload_n 0, 0, 0, 0, []), (54, .iload_n 1, 1, 0, 0, []), (55, .invokevirtual 258, 63, 2, 1, []), (58, .isub, 0, 0, 0, []), (59, .ireturn, 0, 0, 0, [])])
def mk_m22 : Nat × List (List Bool × List mj_I) := (3, [mk_b22_0, mk_b22_1])
/-- NumbersCalled.door(I)I -/
def mk_b23_0 : List Bool × List mj_I := ([true, true, false], [(0, .iload_n 1, 1, 0, 0, []), (1, .iconst 0, 0, 0, 0, []), (2, .iconst 1, 0, 0, 0, []), (3, .invokestatic 92, 44, 3, 1, []), (6, .ifCond .ne (6), 1, 0, 0, []), (9, .bipush (-2), 0, 0, 0, []), (11, .ireturn, 0, 0, 0, [])])
def mk_b23_1 : List Bool × List mj_I := ([true, true, false], [(12, .aload_n 0, 0, 0, 0, []), (13, .invokevirtual 197, 58, 1, 0, []), (16, .aload_n 0, 0, 0, 0, []), (17, .getfield 55, 8, 7, 0, []), (20, .invokevirtual 224, 185, 1, 1, []), (23, .istore_n 2, 2, 0, 0, []), (24, .aload_n 0, 0, 0, 0, []), (25, .getfield 55, 8, 7, 0, []), (28, .getfield 234, 0, 1, 0, []), (31, .iload_n 1, 1, 0, 0, []), (32, .ifCond .ne (7), 2, 0, 0, []), (35, .iconst 1, 0, 0, 0, []), (36, .goto (4), 3, 0, 0, [])])
def mk_b23_2 : List Bool × List mj_I := ([true, true, true], [(39, .iconst 0, 0, 0, 0, []), (40, .nop, 3, 0, 0, [])])
def mk_b23_3 : List Bool × List mj_I := ([true, true, true], [(40, .putfield 261, 10, 3, 1, []), (43, .aload_n 0, 0, 0, 0, []), (44, .getfield 55, 8, 7, 0, []), (47, .getfield 234, 0, 1, 0, []), (50, .iload_n 1, 1, 0, 0, []), (51, .iconst 1, 0, 0, 0, []), (52, .if_icmp .ne (7), 4, 0, 0, []), (55, .iconst 1, 0, 0, 0, []), (56, .goto (4), 5, 0, 0, [])])
def mk_b23_4 : List Bool × List mj_I := ([true, false, true], [(59, .iconst 0, 0, 0, 0, []), (60, .nop, 5, 0, 0, [])])
def mk_b23_5 : List Bool × List mj_I := ([true, false, true], [(60, .putfield 264, 11, 3, 1, []), (63, .aload_n 0, 0, 0, 0, []), (64, .invokevirtual 237, 57, 1, 0, []), (67, .iload_n 2, 2, 0, 0, []), (68, .aload_n 0, 0, 0, 0, []), (69, .getfield 55, 8, 7, 0, []), (72, .invokevirtual 224, 185, 1, 1, []), (75, .isub, 0, 0, 0, []), (76, .ireturn, 0, 0, 0, [])])
def mk_m23 : Nat × List (List Bool × List mj_I) := (3, [mk_b23_0, mk_b23_1, mk_b23_2, mk_b23_3, mk_b23_4, mk_b23_5])
/-- NumbersCalled.say(I)I -/
def mk_b24_0 : List Bool × List mj_I := ([true, true, false, false, false], [(0, .iload_n 1, 1, 0, 0, []), (1, .iconst 0, 0, 0, 0, []), (2, .iconst 1, 0, 0, 0, []), (3, .invokestatic 92, 44, 3, 1, []), (6, .ifCond .ne (6), 1, 0, 0, []), (9, .bipush (-2), 0, 0, 0, []), (11, .ireturn, 0, 0, 0, [])])
def mk_b24_1 : List Bool × List mj_I := ([true, true, false, false, false], [(12, .aload_n 0, 0, 0, 0, []), (13, .getfield 62, 9, 7, 0, []), (16, .invokevirtual 227, 188, 1, 0, []), (19, .aload_n 0, 0, 0, 0, []), (20, .invokevirtual 197, 58, 1, 0, []), (23, .iconst 0, 0, 0, 0, []), (24, .istore_n 2, 2, 0, 0, []), (25, .nop, 2, 0, 0, [])])
def mk_b24_2 : List Bool × List mj_I := ([true, true, true, false, false], [(25, .iload_n 2, 2, 0, 0, []), (26, .bipush 60, 0, 0, 0, []), (28, .if_icmp .gt (79), 6, 0, 0, []), (31, .iconst 0, 0, 0, 0, []), (32, .istore_n 3, 3, 0, 0, []), (33, .iconst 0, 0, 0, 0, []), (34, .istore 4, 4, 0, 0, []), (36, .nop, 3, 0, 0, [])])
def mk_b24_3 : List Bool × List mj_I := ([true, true, true, true, true], [(36, .iload 4, 4, 0, 0, []), (38, .aload_n 0, 0, 0, 0, []), (39, .getfield 10, 0, 7, 0, []), (42, .getfield 137, 4, 3, 0, []), (45, .if_icmp .ge (47), 5, 0, 0, []), (48, .aload_n 0, 0, 0, 0, []), (49, .getfield 55, 8, 7, 0, []), (52, .getfield 200, 1, 1, 0, []), (55, .iload 4, 4, 0, 0, []), (57, .iaload, 0, 0, 0, []), (58, .iconst 2, 0, 0, 0, []), (59, .if_icmp .ne (27), 4, 0, 0, []), (62, .iload_n 3, 3, 0, 0, []), (63, .aload_n 0, 0, 0, 0, []), (64, .aload_n 0, 0, 0, 0, []), (65, .getfield 25, 3, 7, 0, []), (68, .iload 4, 4, 0, 0, []), (70, .aaload, 0, 0, 0, []), (71, .aload_n 0, 0, 0, 0, []), (72, .getfield 55, 8, 7, 0, []), (75, .iload 4, 4, 0, 0, []), (77, .invokevirtual 212, 178, 2, 1, []), (80, .iload_n 2, 2, 0, 0, []), (81, .invokevirtual 193, 64, 4, 1, []), (84, .iadd, 0, 0, 0, []), (85, .istore_n 3, 3, 0, 0, []), (86, .nop, 4, 0, 0, [])])
def mk_b24_4 : List Bool × List mj_I := ([true, true, true, true, true], [(86, .iinc 4 1, 4, 0, 0, []), (89, .goto (-53), 3, 0, 0, [])])
def mk_b24_5 : List Bool × List mj_I := ([true, true, true, true, false], [(92, .aload_n 0, 0, 0, 0, []), (93, .getfield 62, 9, 7, 0, []), (96, .iload_n 2, 2, 0, 0, []), (97, .iload_n 3, 3, 0, 0, []), (98, .invokevirtual 230, 189, 3, 0, []), (101, .iinc 2 5, 2, 0, 0, []), (104, .goto (-79), 2, 0, 0, [])])
def mk_b24_6 : List Bool × List mj_I := ([true, true, false, false, false], [(107, .aload_n 0, 0, 0, 0, []), (108, .getfield 62, 9, 7, 0, []), (111, .iload_n 1, 1, 0, 0, []), (112, .invokevirtual 240, 190, 2, 1, []), (115, .ireturn, 0, 0, 0, [])])
def mk_m24 : Nat × List (List Bool × List mj_I) := (5, [mk_b24_0, mk_b24_1, mk_b24_2, mk_b24_3, mk_b24_4, mk_b24_5, mk_b24_6])
/-- NumbersCalled.best(II)I -/
def mk_b25_0 : List Bool × List mj_I := ([true, true, true], [(0, .aload_n 0, 0, 0, 0, []), (1, .iload_n 1, 1, 0, 0, []), (2, .invokevirtual 164, 50, 2, 1, []), (5, .ifCond .ne (6), 1, 0, 0, []), (8, .bipush (-5), 0, 0, 0, []), (10, .ireturn, 0, 0, 0, [])])
def mk_b25_1 : List Bool × List mj_I := ([true, true, true], [(11, .iload_n 2, 2, 0, 0, []), (12, .iconst 0, 0, 0, 0, []), (13, .iconst 1, 0, 0, 0, []), (14, .invokestatic 92, 44, 3, 1, []), (17, .ifCond .ne (6), 2, 0, 0, []), (20, .bipush (-7), 0, 0, 0, []), (22, .ireturn, 0, 0, 0, [])])
def mk_b25_2 : List Bool × List mj_I := ([true, true, true], [(23, .aload_n 0, 0, 0, 0, []), (24, .invokevirtual 249, 56, 1, 0, []), (27, .aload_n 0, 0, 0, 0, []), (28, .iload_n 1, 1, 0, 0, []), (29, .invokevirtual 267, 65, 2, 0, []), (32, .aload_n 0, 0, 0, 0, []), (33, .getfield 62, 9, 7, 0, []), (36, .iload_n 2, 2, 0, 0, []), (37, .invokevirtual 240, 190, 2, 1, []), (40, .ireturn, 0, 0, 0, [])])
def mk_m25 : Nat × List (List Bool × List mj_I) := (3, [mk_b25_0, mk_b25_1, mk_b25_2])
/-- NumbersCalled.uneasy()I -/
def mk_b26_0 : List Bool × List mj_I := ([true, false, false], [(0, .iconst 0, 0, 0, 0, []), (1, .istore_n 1, 1, 0, 0, []), (2, .iconst 0, 0, 0, 0, []), (3, .istore_n 2, 2, 0, 0, []), (4, .nop, 1, 0, 0, [])])
def mk_b26_1 : List Bool × List mj_I := ([true, true, true], [(4, .iload_n 2, 2, 0, 0, []), (5, .aload_n 0, 0, 0, 0, []), (6, .getfield 10, 0, 7, 0, []), (9, .getfield 137, 4, 3, 0, []), (12, .if_icmp .ge (23), 3, 0, 0, []), (15, .aload_n 0, 0, 0, 0, []), (16, .iload_n 2, 2, 0, 0, []), (17, .invokevirtual 270, 66, 2, 1, []), (20, .ifCond .eq (9), 2, 0, 0, []), (23, .iload_n 1, 1, 0, 0, []), (24, .iconst 1, 0, 0, 0, []), (25, .iload_n 2, 2, 0, 0, []), (26, .ishl, 0, 0, 0, []), (27, .ior, 0, 0, 0, []), (28, .istore_n 1, 1, 0, 0, []), (29, .nop, 2, 0, 0, [])])
def mk_b26_2 : List Bool × List mj_I := ([true, true, true], [(29, .iinc 2 1, 2, 0, 0, []), (32, .goto (-28), 1, 0, 0, [])])
def mk_b26_3 : List Bool × List mj_I := ([false, true, false], [(35, .iload_n 1, 1, 0, 0, []), (36, .ireturn, 0, 0, 0, [])])
def mk_m26 : Nat × List (List Bool × List mj_I) := (3, [mk_b26_0, mk_b26_1, mk_b26_2, mk_b26_3])
/-- NumbersCalled.rests(I)I -/
def mk_b27_0 : List Bool × List mj_I := ([true, true, false, false, false, false], [(0, .iload_n 1, 1, 0, 0, []), (1, .iconst 0, 0, 0, 0, []), (2, .iconst 5, 0, 0, 0, []), (3, .invokestatic 92, 44, 3, 1, []), (6, .ifCond .ne (6), 1, 0, 0, []), (9, .bipush (-2), 0, 0, 0, []), (11, .ireturn, 0, 0, 0, [])])
def mk_b27_1 : List Bool × List mj_I := ([true, true, false, false, false, false], [(12, .iconst 0, 0, 0, 0, []), (13, .istore_n 2, 2, 0, 0, []), (14, .iconst 0, 0, 0, 0, []), (15, .istore_n 3, 3, 0, 0, []), (16, .nop, 2, 0, 0, [])])
def mk_b27_2 : List Bool × List mj_I := ([true, true, true, true, false, false], [(16, .iload_n 3, 3, 0, 0, []), (17, .iload_n 1, 1, 0, 0, []), (18, .if_icmp .ge (71), 7, 0, 0, []), (21, .iload_n 2, 2, 0, 0, []), (22, .istore 4, 4, 0, 0, []), (24, .iconst 0, 0, 0, 0, []), (25, .istore 5, 5, 0, 0, []), (27, .nop, 3, 0, 0, [])])
def mk_b27_3 : List Bool × List mj_I := ([true, true, true, true, true, true], [(27, .iload 5, 5, 0, 0, []), (29, .aload_n 0, 0, 0, 0, []), (30, .getfield 10, 0, 7, 0, []), (33, .getfield 137, 4, 3, 0, []), (36, .if_icmp .ge (38), 5, 0, 0, []), (39, .aload_n 0, 0, 0, 0, []), (40, .iload 5, 5, 0, 0, []), (42, .invokevirtual 270, 66, 2, 1, []), (45, .ifCond .eq (23), 4, 0, 0, []), (48, .aload_n 0, 0, 0, 0, []), (49, .getfield 10, 0, 7, 0, []), (52, .getfield 161, 5, 3, 0, []), (55, .iload 5, 5, 0, 0, []), (57, .aload_n 0, 0, 0, 0, []), (58, .getfield 62, 9, 7, 0, []), (61, .getfield 273, 0, 2, 0, []), (64, .iastore, 0, 0, 0, []), (65, .iinc 2 1, 2, 0, 0, []), (68, .nop, 4, 0, 0, [])])
def mk_b27_4 : List Bool × List mj_I := ([true, true, true, true, true, true], [(68, .iinc 5 1, 5, 0, 0, []), (71, .goto (-44), 3, 0, 0, [])])
def mk_b27_5 : List Bool × List mj_I := ([true, true, true, true, true, false], [(74, .iload_n 2, 2, 0, 0, []), (75, .iload 4, 4, 0, 0, []), (77, .if_icmp .ne (6), 6, 0, 0, []), (80, .goto (9), 7, 0, 0, [])])
def mk_b27_6 : List Bool × List mj_I := ([true, true, true, true, false, false], [(83, .iinc 3 1, 3, 0, 0, []), (86, .goto (-70), 2, 0, 0, [])])
def mk_b27_7 : List Bool × List mj_I := ([false, false, true, false, false, false], [(89, .iload_n 2, 2, 0, 0, []), (90, .ireturn, 0, 0, 0, [])])
def mk_m27 : Nat × List (List Bool × List mj_I) := (6, [mk_b27_0, mk_b27_1, mk_b27_2, mk_b27_3, mk_b27_4, mk_b27_5, mk_b27_6, mk_b27_7])
/-- NumbersCalled.when(III)I -/
def mk_b28_0 : List Bool × List mj_I := ([true, true, true, true, false], [(0, .iload_n 1, 1, 0, 0, []), (1, .iconst 0, 0, 0, 0, []), (2, .iconst 3, 0, 0, 0, []), (3, .invokestatic 92, 44, 3, 1, []), (6, .ifCond .eq (22), 1, 0, 0, []), (9, .iload_n 2, 2, 0, 0, []), (10, .iconst 1, 0, 0, 0, []), (11, .bipush 99, 0, 0, 0, []), (13, .invokestatic 92, 44, 3, 1, []), (16, .ifCond .eq (12), 1, 0, 0, []), (19, .iload_n 3, 3, 0, 0, []), (20, .iconst 0, 0, 0, 0, []), (21, .iconst 1, 0, 0, 0, []), (22, .invokestatic 92, 44, 3, 1, []), (25, .ifCond .ne (6), 2, 0, 0, []), (28, .nop, 1, 0, 0, [])])
def mk_b28_1 : List Bool × List mj_I := ([false, false, false, false, false], [(28, .bipush (-2), 0, 0, 0, []), (30, .ireturn, 0, 0, 0, [])])
def mk_b28_2 : List Bool × List mj_I := ([true, true, true, true, false], [(31, .aload_n 0, 0, 0, 0, []), (32, .getfield 10, 0, 7, 0, []), (35, .getfield 137, 4, 3, 0, []), (38, .bipush 16, 0, 0, 0, []), (40, .if_icmp .lt (6), 3, 0, 0, []), (43, .bipush (-3), 0, 0, 0, []), (45, .ireturn, 0, 0, 0, [])])
def mk_b28_3 : List Bool × List mj_I := ([true, true, true, true, false], [(46, .aload_n 0, 0, 0, 0, []), (47, .getfield 10, 0, 7, 0, []), (50, .getfield 137, 4, 3, 0, []), (53, .istore 4, 4, 0, 0, []), (55, .aload_n 0, 0, 0, 0, []), (56, .getfield 25, 3, 7, 0, []), (59, .iload 4, 4, 0, 0, []), (61, .aaload, 0, 0, 0, []), (62, .iconst 0, 0, 0, 0, []), (63, .iload_n 1, 1, 0, 0, []), (64, .iload_n 2, 2, 0, 0, []), (65, .bipush 9, 0, 0, 0, []), (67, .invokevirtual 158, 163, 5, 0, []), (70, .aload_n 0, 0, 0, 0, []), (71, .invokevirtual 249, 56, 1, 0, []), (74, .aload_n 0, 0, 0, 0, []), (75, .getfield 55, 8, 7, 0, []), (78, .getfield 234, 0, 1, 0, []), (81, .dup, 0, 0, 0, []), (82, .getfield 137, 4, 3, 0, []), (85, .iconst 1, 0, 0, 0, []), (86, .iadd, 0, 0, 0, []), (87, .putfield 137, 4, 3, 0, []), (90, .aload_n 0, 0, 0, 0, []), (91, .iload 4, 4, 0, 0, []), (93, .invokevirtual 267, 65, 2, 0, []), (96, .aload_n 0, 0, 0, 0, []), (97, .getfield 62, 9, 7, 0, []), (100, .iload_n 3, 3, 0, 0, []), (101, .invokevirtual 240, 190, 2, 1, []), (104, .ireturn, 0, 0, 0, [])])
def mk_m28 : Nat × List (List Bool × List mj_I) := (5, [mk_b28_0, mk_b28_1, mk_b28_2, mk_b28_3])
/-- NumbersCalled.over(III)J -/
def mk_b29_0 : List Bool × List mj_I := ([true, true, true, true, false], [(0, .iload_n 1, 1, 0, 0, []), (1, .iconst 0, 0, 0, 0, []), (2, .bipush 40, 0, 0, 0, []), (4, .invokestatic 92, 44, 3, 1, []), (7, .ifCond .eq (23), 1, 0, 0, []), (10, .iload_n 2, 2, 0, 0, []), (11, .iconst 0, 0, 0, 0, []), (12, .bipush 100, 0, 0, 0, []), (14, .invokestatic 92, 44, 3, 1, []), (17, .ifCond .eq (13), 1, 0, 0, []), (20, .iload_n 3, 3, 0, 0, []), (21, .iconst 0, 0, 0, 0, []), (22, .bipush 40, 0, 0, 0, []), (24, .invokestatic 92, 44, 3, 1, []), (27, .ifCond .ne (7), 2, 0, 0, []), (30, .nop, 1, 0, 0, [])])
def mk_b29_1 : List Bool × List mj_I := ([false, false, false, false, false], [(30, .ldc2_w 276, 0, 0, 0, []), (33, .lreturn, 0, 0, 0, [])])
def mk_b29_2 : List Bool × List mj_I := ([true, true, true, true, false], [(34, .aload_n 0, 0, 0, 0, []), (35, .invokevirtual 278, 68, 1, 0, []), (38, .iconst 1, 0, 0, 0, []), (39, .istore 4, 4, 0, 0, []), (41, .nop, 3, 0, 0, [])])
def mk_b29_3 : List Bool × List mj_I := ([true, true, true, true, true], [(41, .iload 4, 4, 0, 0, []), (43, .iload_n 1, 1, 0, 0, []), (44, .if_icmp .gt (16), 4, 0, 0, []), (47, .aload_n 0, 0, 0, 0, []), (48, .iload 4, 4, 0, 0, []), (50, .iload_n 2, 2, 0, 0, []), (51, .invokevirtual 281, 69, 3, 0, []), (54, .iinc 4 1, 4, 0, 0, []), (57, .goto (-16), 3, 0, 0, [])])
def mk_b29_4 : List Bool × List mj_I := ([true, false, false, true, false], [(60, .aload_n 0, 0, 0, 0, []), (61, .iload_n 3, 3, 0, 0, []), (62, .invokevirtual 284, 70, 2, 2, []), (65, .lreturn, 0, 0, 0, [])])
def mk_m29 : Nat × List (List Bool × List mj_I) := (5, [mk_b29_0, mk_b29_1, mk_b29_2, mk_b29_3, mk_b29_4])
/-- NumbersCalled.give(III)I -/
def mk_b30_0 : List Bool × List mj_I := ([true, true, true, true, false, false], [(0, .iload_n 1, 1, 0, 0, []), (1, .iconst 0, 0, 0, 0, []), (2, .bipush 100, 0, 0, 0, []), (4, .invokestatic 92, 44, 3, 1, []), (7, .ifCond .eq (24), 1, 0, 0, []), (10, .iload_n 2, 2, 0, 0, []), (11, .iconst 0, 0, 0, 0, []), (12, .bipush 40, 0, 0, 0, []), (14, .invokestatic 92, 44, 3, 1, []), (17, .ifCond .eq (14), 1, 0, 0, []), (20, .iload_n 3, 3, 0, 0, []), (21, .iconst 0, 0, 0, 0, []), (22, .sipush 1000, 0, 0, 0, []), (25, .invokestatic 92, 44, 3, 1, []), (28, .ifCond .ne (6), 2, 0, 0, []), (31, .nop, 1, 0, 0, [])])
def mk_b30_1 : List Bool × List mj_I := ([false, false, false, false, false, false], [(31, .bipush (-2), 0, 0, 0, []), (33, .ireturn, 0, 0, 0, [])])
def mk_b30_2 : List Bool × List mj_I := ([true, true, true, true, false, false], [(34, .aload_n 0, 0, 0, 0, []), (35, .invokevirtual 278, 68, 1, 0, []), (38, .iconst 0, 0, 0, 0, []), (39, .istore 4, 4, 0, 0, []), (41, .iconst 1, 0, 0, 0, []), (42, .istore 5, 5, 0, 0, []), (44, .nop, 3, 0, 0, [])])
def mk_b30_3 : List Bool × List mj_I := ([true, true, true, true, true, true], [(44, .iload 5, 5, 0, 0, []), (46, .bipush 40, 0, 0, 0, []), (48, .if_icmp .gt (35), 5, 0, 0, []), (51, .aload_n 0, 0, 0, 0, []), (52, .iload 5, 5, 0, 0, []), (54, .iload_n 1, 1, 0, 0, []), (55, .invokevirtual 281, 69, 3, 0, []), (58, .aload_n 0, 0, 0, 0, []), (59, .iload_n 2, 2, 0, 0, []), (60, .invokevirtual 284, 70, 2, 2, []), (63, .iload_n 3, 3, 0, 0, []), (64, .i2l, 0, 0, 0, []), (65, .ldc2_w 288, 1, 0, 0, []), (68, .lmul, 0, 0, 0, []), (69, .lcmp, 0, 0, 0, []), (70, .ifCond .gt (7), 4, 0, 0, []), (73, .iload 5, 5, 0, 0, []), (75, .istore 4, 4, 0, 0, []), (77, .nop, 4, 0, 0, [])])
def mk_b30_4 : List Bool × List mj_I := ([true, true, true, true, true, true], [(77, .iinc 5 1, 5, 0, 0, []), (80, .goto (-36), 3, 0, 0, [])])
def mk_b30_5 : List Bool × List mj_I := ([false, false, false, false, true, false], [(83, .iload 4, 4, 0, 0, []), (85, .ireturn, 0, 0, 0, [])])
def mk_m30 : Nat × List (List Bool × List mj_I) := (6, [mk_b30_0, mk_b30_1, mk_b30_2, mk_b30_3, mk_b30_4, mk_b30_5])
/-- NumbersCalled.judge(I)I -/
def mk_b31_0 : List Bool × List mj_I := ([true, true, false], [(0, .aload_n 0, 0, 0, 0, []), (1, .iload_n 1, 1, 0, 0, []), (2, .invokevirtual 290, 55, 2, 1, []), (5, .istore_n 2, 2, 0, 0, []), (6, .iload_n 2, 2, 0, 0, []), (7, .ifCond .eq (5), 1, 0, 0, []), (10, .iload_n 2, 2, 0, 0, []), (11, .ireturn, 0, 0, 0, [])])
def mk_b31_1 : List Bool × List mj_I := ([true, true, false], [(12, .aload_n 0, 0, 0, 0, []), (13, .invokevirtual 197, 58, 1, 0, []), (16, .aload_n 0, 0, 0, 0, []), (17, .aload_n 0, 0, 0, 0, []), (18, .getfield 48, 7, 7, 0, []), (21, .iload_n 1, 1, 0, 0, []), (22, .aaload, 0, 0, 0, []), (23, .invokevirtual 293, 67, 2, 1, []), (26, .ireturn, 0, 0, 0, [])])
def mk_m31 : Nat × List (List Bool × List mj_I) := (3, [mk_b31_0, mk_b31_1])
/-- NumbersCalled.laws(I)I -/
def mk_b32_0 : List Bool × List mj_I := ([true, true, false, false, false], [(0, .aload_n 0, 0, 0, 0, []), (1, .iload_n 1, 1, 0, 0, []), (2, .invokevirtual 290, 55, 2, 1, []), (5, .istore_n 2, 2, 0, 0, []), (6, .iload_n 2, 2, 0, 0, []), (7, .ifCond .eq (5), 1, 0, 0, []), (10, .iload_n 2, 2, 0, 0, []), (11, .ireturn, 0, 0, 0, [])])
def mk_b32_1 : List Bool × List mj_I := ([true, true, false, false, false], [(12, .iconst 0, 0, 0, 0, []), (13, .istore_n 3, 3, 0, 0, []), (14, .aload_n 0, 0, 0, 0, []), (15, .invokevirtual 249, 56, 1, 0, []), (18, .iconst 0, 0, 0, 0, []), (19, .istore 4, 4, 0, 0, []), (21, .nop, 2, 0, 0, [])])
def mk_b32_2 : List Bool × List mj_I := ([true, true, false, true, true], [(21, .iload 4, 4, 0, 0, []), (23, .aload_n 0, 0, 0, 0, []), (24, .getfield 35, 5, 7, 0, []), (27, .if_icmp .ge (46), 4, 0, 0, []), (30, .aload_n 0, 0, 0, 0, []), (31, .getfield 55, 8, 7, 0, []), (34, .getfield 234, 0, 1, 0, []), (37, .iload 4, 4, 0, 0, []), (39, .putfield 139, 9, 3, 0, []), (42, .aload_n 0, 0, 0, 0, []), (43, .invokevirtual 237, 57, 1, 0, []), (46, .aload_n 0, 0, 0, 0, []), (47, .aload_n 0, 0, 0, 0, []), (48, .getfield 48, 7, 7, 0, []), (51, .iload_n 1, 1, 0, 0, []), (52, .aaload, 0, 0, 0, []), (53, .invokevirtual 293, 67, 2, 1, []), (56, .iconst (-1), 0, 0, 0, []), (57, .if_icmp .ne (10), 3, 0, 0, []), (60, .iload_n 3, 3, 0, 0, []), (61, .iconst 1, 0, 0, 0, []), (62, .iload 4, 4, 0, 0, []), (64, .ishl, 0, 0, 0, []), (65, .ior, 0, 0, 0, []), (66, .istore_n 3, 3, 0, 0, []), (67, .nop, 3, 0, 0, [])])
def mk_b32_3 : List Bool × List mj_I := ([true, true, false, true, true], [(67, .iinc 4 1, 4, 0, 0, []), (70, .goto (-49), 2, 0, 0, [])])
def mk_b32_4 : List Bool × List mj_I := ([false, false, false, true, false], [(73, .iload_n 3, 3, 0, 0, []), (74, .ireturn, 0, 0, 0, [])])
def mk_m32 : Nat × List (List Bool × List mj_I) := (5, [mk_b32_0, mk_b32_1, mk_b32_2, mk_b32_3, mk_b32_4])
/-- NumbersCalled.which(I)I -/
def mk_b33_0 : List Bool × List mj_I := ([true, true, false, false, false], [(0, .aload_n 0, 0, 0, 0, []), (1, .iload_n 1, 1, 0, 0, []), (2, .invokevirtual 290, 55, 2, 1, []), (5, .istore_n 2, 2, 0, 0, []), (6, .iload_n 2, 2, 0, 0, []), (7, .ifCond .eq (5), 1, 0, 0, []), (10, .iload_n 2, 2, 0, 0, []), (11, .ireturn, 0, 0, 0, [])])
def mk_b33_1 : List Bool × List mj_I := ([true, true, false, false, false], [(12, .iconst 0, 0, 0, 0, []), (13, .istore_n 3, 3, 0, 0, []), (14, .aload_n 0, 0, 0, 0, []), (15, .invokevirtual 249, 56, 1, 0, []), (18, .iconst 0, 0, 0, 0, []), (19, .istore 4, 4, 0, 0, []), (21, .nop, 2, 0, 0, [])])
def mk_b33_2 : List Bool × List mj_I := ([true, true, false, true, true], [(21, .iload 4, 4, 0, 0, []), (23, .iconst 4, 0, 0, 0, []), (24, .if_icmp .ge (46), 4, 0, 0, []), (27, .aload_n 0, 0, 0, 0, []), (28, .getfield 55, 8, 7, 0, []), (31, .getfield 234, 0, 1, 0, []), (34, .iload 4, 4, 0, 0, []), (36, .putfield 128, 6, 3, 0, []), (39, .aload_n 0, 0, 0, 0, []), (40, .invokevirtual 237, 57, 1, 0, []), (43, .aload_n 0, 0, 0, 0, []), (44, .aload_n 0, 0, 0, 0, []), (45, .getfield 48, 7, 7, 0, []), (48, .iload_n 1, 1, 0, 0, []), (49, .aaload, 0, 0, 0, []), (50, .invokevirtual 293, 67, 2, 1, []), (53, .iconst (-1), 0, 0, 0, []), (54, .if_icmp .ne (10), 3, 0, 0, []), (57, .iload_n 3, 3, 0, 0, []), (58, .iconst 1, 0, 0, 0, []), (59, .iload 4, 4, 0, 0, []), (61, .ishl, 0, 0, 0, []), (62, .ior, 0, 0, 0, []), (63, .istore_n 3, 3, 0, 0, []), (64, .nop, 3, 0, 0, [])])
def mk_b33_3 : List Bool × List mj_I := ([true, true, false, true, true], [(64, .iinc 4 1, 4, 0, 0, []), (67, .goto (-46), 2, 0, 0, [])])
def mk_b33_4 : List Bool × List mj_I := ([false, false, false, true, false], [(70, .iload_n 3, 3, 0, 0, []), (71, .ireturn, 0, 0, 0, [])])
def mk_m33 : Nat × List (List Bool × List mj_I) := (5, [mk_b33_0, mk_b33_1, mk_b33_2, mk_b33_3, mk_b33_4])
/-- NumbersCalled.film(I)I -/
def mk_b34_0 : List Bool × List mj_I := ([true, true, false], [(0, .iload_n 1, 1, 0, 0, []), (1, .invokestatic 297, 48, 1, 1, []), (4, .ifCond .ne (6), 1, 0, 0, []), (7, .bipush (-2), 0, 0, 0, []), (9, .ireturn, 0, 0, 0, [])])
def mk_b34_1 : List Bool × List mj_I := ([true, true, false], [(10, .aload_n 0, 0, 0, 0, []), (11, .invokevirtual 197, 58, 1, 0, []), (14, .aload_n 0, 0, 0, 0, []), (15, .getfield 48, 7, 7, 0, []), (18, .iload_n 1, 1, 0, 0, []), (19, .aaload, 0, 0, 0, []), (20, .iconst 2, 0, 0, 0, []), (21, .aload_n 0, 0, 0, 0, []), (22, .getfield 10, 0, 7, 0, []), (25, .getfield 137, 4, 3, 0, []), (28, .invokevirtual 300, 195, 3, 0, []), (31, .iconst 0, 0, 0, 0, []), (32, .istore_n 2, 2, 0, 0, []), (33, .nop, 2, 0, 0, [])])
def mk_b34_2 : List Bool × List mj_I := ([true, true, true], [(33, .iload_n 2, 2, 0, 0, []), (34, .aload_n 0, 0, 0, 0, []), (35, .getfield 10, 0, 7, 0, []), (38, .getfield 137, 4, 3, 0, []), (41, .if_icmp .ge (28), 3, 0, 0, []), (44, .aload_n 0, 0, 0, 0, []), (45, .getfield 48, 7, 7, 0, []), (48, .iload_n 1, 1, 0, 0, []), (49, .aaload, 0, 0, 0, []), (50, .iload_n 2, 2, 0, 0, []), (51, .aload_n 0, 0, 0, 0, []), (52, .getfield 55, 8, 7, 0, []), (55, .getfield 206, 3, 1, 0, []), (58, .iload_n 2, 2, 0, 0, []), (59, .iaload, 0, 0, 0, []), (60, .invokevirtual 302, 196, 3, 0, []), (63, .iinc 2 1, 2, 0, 0, []), (66, .goto (-33), 2, 0, 0, [])])
def mk_b34_3 : List Bool × List mj_I := ([true, false, false], [(69, .aload_n 0, 0, 0, 0, []), (70, .getfield 10, 0, 7, 0, []), (73, .getfield 137, 4, 3, 0, []), (76, .ireturn, 0, 0, 0, [])])
def mk_m34 : Nat × List (List Bool × List mj_I) := (3, [mk_b34_0, mk_b34_1, mk_b34_2, mk_b34_3])
/-- NumbersCalled.drawn(II)I -/
def mk_b35_0 : List Bool × List mj_I := ([true, true, true], [(0, .iload_n 1, 1, 0, 0, []), (1, .iconst 0, 0, 0, 0, []), (2, .ldc_w 305, 2, 0, 0, []), (5, .invokestatic 92, 44, 3, 1, []), (8, .ifCond .eq (13), 1, 0, 0, []), (11, .iload_n 2, 2, 0, 0, []), (12, .iconst 0, 0, 0, 0, []), (13, .bipush 7, 0, 0, 0, []), (15, .invokestatic 92, 44, 3, 1, []), (18, .ifCond .ne (6), 2, 0, 0, []), (21, .nop, 1, 0, 0, [])])
def mk_b35_1 : List Bool × List mj_I := ([false, false, false], [(21, .bipush (-2), 0, 0, 0, []), (23, .ireturn, 0, 0, 0, [])])
def mk_b35_2 : List Bool × List mj_I := ([true, true, true], [(24, .aload_n 0, 0, 0, 0, []), (25, .iload_n 1, 1, 0, 0, []), (26, .invokevirtual 306, 59, 2, 0, []), (29, .aload_n 0, 0, 0, 0, []), (30, .invokevirtual 237, 57, 1, 0, []), (33, .aload_n 0, 0, 0, 0, []), (34, .getfield 55, 8, 7, 0, []), (37, .iload_n 2, 2, 0, 0, []), (38, .invokevirtual 218, 187, 2, 1, []), (41, .ireturn, 0, 0, 0, [])])
def mk_m35 : Nat × List (List Bool × List mj_I) := (3, [mk_b35_0, mk_b35_1, mk_b35_2])
/-- NumbersCalled.odds(IIII)J -/
def mk_b36_0 : List Bool × List mj_I := ([true, true, true, true, true, false, false], [(0, .iload_n 1, 1, 0, 0, []), (1, .iconst 0, 0, 0, 0, []), (2, .ldc_w 305, 2, 0, 0, []), (5, .invokestatic 92, 44, 3, 1, []), (8, .ifCond .eq (34), 1, 0, 0, []), (11, .iload_n 2, 2, 0, 0, []), (12, .iconst 1, 0, 0, 0, []), (13, .bipush 20, 0, 0, 0, []), (15, .invokestatic 92, 44, 3, 1, []), (18, .ifCond .eq (24), 1, 0, 0, []), (21, .iload_n 3, 3, 0, 0, []), (22, .iconst 0, 0, 0, 0, []), (23, .sipush 999, 0, 0, 0, []), (26, .invokestatic 92, 44, 3, 1, []), (29, .ifCond .eq (13), 1, 0, 0, []), (32, .iload 4, 4, 0, 0, []), (34, .iconst 0, 0, 0, 0, []), (35, .iconst 1, 0, 0, 0, []), (36, .invokestatic 92, 44, 3, 1, []), (39, .ifCond .ne (7), 2, 0, 0, []), (42, .nop, 1, 0, 0, [])])
def mk_b36_1 : List Bool × List mj_I := ([false, false, false, false, false, false, false], [(42, .ldc2_w 276, 0, 0, 0, []), (45, .lreturn, 0, 0, 0, [])])
def mk_b36_2 : List Bool × List mj_I := ([true, true, true, true, true, false, false], [(46, .iconst 0, 0, 0, 0, []), (47, .istore 5, 5, 0, 0, []), (49, .iconst 0, 0, 0, 0, []), (50, .istore 6, 6, 0, 0, []), (52, .nop, 3, 0, 0, [])])
def mk_b36_3 : List Bool × List mj_I := ([true, true, true, true, true, true, true], [(52, .iload 6, 6, 0, 0, []), (54, .iload_n 2, 2, 0, 0, []), (55, .if_icmp .ge (35), 5, 0, 0, []), (58, .aload_n 0, 0, 0, 0, []), (59, .iload_n 1, 1, 0, 0, []), (60, .iload 6, 6, 0, 0, []), (62, .iadd, 0, 0, 0, []), (63, .invokevirtual 306, 59, 2, 0, []), (66, .aload_n 0, 0, 0, 0, []), (67, .invokevirtual 237, 57, 1, 0, []), (70, .aload_n 0, 0, 0, 0, []), (71, .getfield 55, 8, 7, 0, []), (74, .iload_n 3, 3, 0, 0, []), (75, .invokevirtual 255, 186, 2, 1, []), (78, .ifCond .eq (6), 4, 0, 0, []), (81, .iinc 5 1, 5, 0, 0, []), (84, .nop, 4, 0, 0, [])])
def mk_b36_4 : List Bool × List mj_I := ([true, true, true, true, true, true, true], [(84, .iinc 6 1, 6, 0, 0, []), (87, .goto (-35), 3, 0, 0, [])])
def mk_b36_5 : List Bool × List mj_I := ([false, false, true, false, true, true, false], [(90, .iload 5, 5, 0, 0, []), (92, .iload_n 2, 2, 0, 0, []), (93, .invokestatic 309, 71, 2, 1, []), (96, .istore 6, 6, 0, 0, []), (98, .iload 4, 4, 0, 0, []), (100, .ifCond .ne (12), 6, 0, 0, []), (103, .iload 5, 5, 0, 0, []), (105, .iload 6, 6, 0, 0, []), (107, .idiv, 0, 0, 0, []), (108, .i2l, 0, 0, 0, []), (109, .goto (8), 7, 0, 0, [])])
def mk_b36_6 : List Bool × List mj_I := ([false, false, true, false, false, false, true], [(112, .iload_n 2, 2, 0, 0, []), (113, .iload 6, 6, 0, 0, []), (115, .idiv, 0, 0, 0, []), (116, .i2l, 0, 0, 0, []), (117, .nop, 7, 0, 0, [])])
def mk_b36_7 : List Bool × List mj_I := ([false, false, false, false, false, false, false], [(117, .lreturn, 0, 0, 0, [])])
def mk_m36 : Nat × List (List Bool × List mj_I) := (7, [mk_b36_0, mk_b36_1, mk_b36_2, mk_b36_3, mk_b36_4, mk_b36_5, mk_b36_6, mk_b36_7])
/-- NumbersCalled.image()I -/
def mk_b37_0 : List Bool × List mj_I := ([true], [(0, .aload_n 0, 0, 0, 0, []), (1, .getfield 16, 1, 7, 0, []), (4, .aload_n 0, 0, 0, 0, []), (5, .getfield 10, 0, 7, 0, []), (8, .invokevirtual 312, 191, 2, 0, []), (11, .aload_n 0, 0, 0, 0, []), (12, .iconst 1, 0, 0, 0, []), (13, .putfield 19, 2, 7, 1, []), (16, .aload_n 0, 0, 0, 0, []), (17, .getfield 10, 0, 7, 0, []), (20, .getfield 137, 4, 3, 0, []), (23, .ireturn, 0, 0, 0, [])])
def mk_m37 : Nat × List (List Bool × List mj_I) := (1, [mk_b37_0])
/-- NumbersCalled.back()I -/
def mk_b38_0 : List Bool × List mj_I := ([true], [(0, .aload_n 0, 0, 0, 0, []), (1, .getfield 19, 2, 7, 1, []), (4, .ifCond .ne (6), 1, 0, 0, []), (7, .bipush (-3), 0, 0, 0, []), (9, .ireturn, 0, 0, 0, [])])
def mk_b38_1 : List Bool × List mj_I := ([true], [(10, .aload_n 0, 0, 0, 0, []), (11, .getfield 10, 0, 7, 0, []), (14, .aload_n 0, 0, 0, 0, []), (15, .getfield 16, 1, 7, 0, []), (18, .invokevirtual 312, 191, 2, 0, []), (21, .aload_n 0, 0, 0, 0, []), (22, .getfield 10, 0, 7, 0, []), (25, .getfield 137, 4, 3, 0, []), (28, .ireturn, 0, 0, 0, [])])
def mk_m38 : Nat × List (List Bool × List mj_I) := (1, [mk_b38_0, mk_b38_1])
/-- NumbersCalled.sheet(III)I -/
def mk_b39_0 : List Bool × List mj_I := ([true, true, true, true], [(0, .iload_n 1, 1, 0, 0, []), (1, .invokestatic 297, 48, 1, 1, []), (4, .ifCond .eq (12), 1, 0, 0, []), (7, .iload_n 2, 2, 0, 0, []), (8, .iconst (-1), 0, 0, 0, []), (9, .iconst 2, 0, 0, 0, []), (10, .invokestatic 92, 44, 3, 1, []), (13, .ifCond .ne (6), 2, 0, 0, []), (16, .nop, 1, 0, 0, [])])
def mk_b39_1 : List Bool × List mj_I := ([false, false, false, false], [(16, .bipush (-2), 0, 0, 0, []), (18, .ireturn, 0, 0, 0, [])])
def mk_b39_2 : List Bool × List mj_I := ([true, true, true, true], [(19, .iload_n 2, 2, 0, 0, []), (20, .iconst (-1), 0, 0, 0, []), (21, .if_icmp .ne (16), 3, 0, 0, []), (24, .aload_n 0, 0, 0, 0, []), (25, .getfield 48, 7, 7, 0, []), (28, .iload_n 1, 1, 0, 0, []), (29, .aaload, 0, 0, 0, []), (30, .iconst (-1), 0, 0, 0, []), (31, .iconst 0, 0, 0, 0, []), (32, .invokevirtual 300, 195, 3, 0, []), (35, .iconst 1, 0, 0, 0, []), (36, .ireturn, 0, 0, 0, [])])
def mk_b39_3 : List Bool × List mj_I := ([true, true, true, true], [(37, .iload_n 3, 3, 0, 0, []), (38, .bipush 40, 0, 0, 0, []), (40, .if_icmp .le (6), 4, 0, 0, []), (43, .bipush (-2), 0, 0, 0, []), (45, .ireturn, 0, 0, 0, [])])
def mk_b39_4 : List Bool × List mj_I := ([true, true, true, true], [(46, .iload_n 3, 3, 0, 0, []), (47, .ifCond .ge (6), 5, 0, 0, []), (50, .bipush (-14), 0, 0, 0, []), (52, .ireturn, 0, 0, 0, [])])
def mk_b39_5 : List Bool × List mj_I := ([true, true, true, true], [(53, .aload_n 0, 0, 0, 0, []), (54, .getfield 48, 7, 7, 0, []), (57, .iload_n 1, 1, 0, 0, []), (58, .aaload, 0, 0, 0, []), (59, .iload_n 2, 2, 0, 0, []), (60, .iload_n 3, 3, 0, 0, []), (61, .invokevirtual 300, 195, 3, 0, []), (64, .iconst 1, 0, 0, 0, []), (65, .ireturn, 0, 0, 0, [])])
def mk_m39 : Nat × List (List Bool × List mj_I) := (4, [mk_b39_0, mk_b39_1, mk_b39_2, mk_b39_3, mk_b39_4, mk_b39_5])
/-- NumbersCalled.cell(III)I -/
def mk_b40_0 : List Bool × List mj_I := ([true, true, true, true], [(0, .iload_n 1, 1, 0, 0, []), (1, .invokestatic 297, 48, 1, 1, []), (4, .ifCond .ne (6), 1, 0, 0, []), (7, .bipush (-2), 0, 0, 0, []), (9, .ireturn, 0, 0, 0, [])])
def mk_b40_1 : List Bool × List mj_I := ([true, true, true, true], [(10, .aload_n 0, 0, 0, 0, []), (11, .getfield 48, 7, 7, 0, []), (14, .iload_n 1, 1, 0, 0, []), (15, .aaload, 0, 0, 0, []), (16, .invokevirtual 315, 194, 1, 1, []), (19, .ifCond .eq (6), 2, 0, 0, []), (22, .bipush (-11), 0, 0, 0, []), (24, .ireturn, 0, 0, 0, [])])
def mk_b40_2 : List Bool × List mj_I := ([true, true, true, true], [(25, .iload_n 2, 2, 0, 0, []), (26, .iconst 0, 0, 0, 0, []), (27, .aload_n 0, 0, 0, 0, []), (28, .getfield 48, 7, 7, 0, []), (31, .iload_n 1, 1, 0, 0, []), (32, .aaload, 0, 0, 0, []), (33, .getfield 319, 1, 4, 0, []), (36, .iconst 1, 0, 0, 0, []), (37, .isub, 0, 0, 0, []), (38, .invokestatic 92, 44, 3, 1, []), (41, .ifCond .ne (6), 3, 0, 0, []), (44, .bipush (-12), 0, 0, 0, []), (46, .ireturn, 0, 0, 0, [])])
def mk_b40_3 : List Bool × List mj_I := ([true, true, true, true], [(47, .aload_n 0, 0, 0, 0, []), (48, .getfield 48, 7, 7, 0, []), (51, .iload_n 1, 1, 0, 0, []), (52, .aaload, 0, 0, 0, []), (53, .iload_n 2, 2, 0, 0, []), (54, .iload_n 3, 3, 0, 0, []), (55, .invokevirtual 302, 196, 3, 0, []), (58, .iconst 1, 0, 0, 0, []), (59, .ireturn, 0, 0, 0, [])])
def mk_m40 : Nat × List (List Bool × List mj_I) := (4, [mk_b40_0, mk_b40_1, mk_b40_2, mk_b40_3])
/-- NumbersCalled.copy(IIIII)I -/
def mk_b41_0 : List Bool × List mj_I := ([true, true, true, true, true, true, false, false], [(0, .iload_n 1, 1, 0, 0, []), (1, .invokestatic 297, 48, 1, 1, []), (4, .ifCond .eq (10), 1, 0, 0, []), (7, .iload_n 3, 3, 0, 0, []), (8, .invokestatic 297, 48, 1, 1, []), (11, .ifCond .ne (6), 2, 0, 0, []), (14, .nop, 1, 0, 0, [])])
def mk_b41_1 : List Bool × List mj_I := ([false, false, false, false, false, false, false, false], [(14, .bipush (-2), 0, 0, 0, []), (16, .ireturn, 0, 0, 0, [])])
def mk_b41_2 : List Bool × List mj_I := ([true, true, true, true, true, true, false, false], [(17, .aload_n 0, 0, 0, 0, []), (18, .getfield 48, 7, 7, 0, []), (21, .iload_n 1, 1, 0, 0, []), (22, .aaload, 0, 0, 0, []), (23, .astore 6, 6, 0, 0, []), (25, .aload_n 0, 0, 0, 0, []), (26, .getfield 48, 7, 7, 0, []), (29, .iload_n 3, 3, 0, 0, []), (30, .aaload, 0, 0, 0, []), (31, .astore 7, 7, 0, 0, []), (33, .aload 6, 6, 0, 0, []), (35, .invokevirtual 315, 194, 1, 1, []), (38, .ifCond .ne (11), 3, 0, 0, []), (41, .aload 7, 7, 0, 0, []), (43, .invokevirtual 315, 194, 1, 1, []), (46, .ifCond .eq (6), 4, 0, 0, []), (49, .nop, 3, 0, 0, [])])
def mk_b41_3 : List Bool × List mj_I := ([false, false, false, false, false, false, false, false], [(49, .bipush (-11), 0, 0, 0, []), (51, .ireturn, 0, 0, 0, [])])
def mk_b41_4 : List Bool × List mj_I := ([false, false, true, false, true, true, true, true], [(52, .aload 6, 6, 0, 0, []), (54, .getfield 320, 0, 4, 0, []), (57, .aload 7, 7, 0, 0, []), (59, .getfield 320, 0, 4, 0, []), (62, .if_icmp .eq (6), 5, 0, 0, []), (65, .bipush (-13), 0, 0, 0, []), (67, .ireturn, 0, 0, 0, [])])
def mk_b41_5 : List Bool × List mj_I := ([false, false, true, false, true, true, true, true], [(68, .iload 5, 5, 0, 0, []), (70, .ifCond .lt (36), 6, 0, 0, []), (73, .iload_n 2, 2, 0, 0, []), (74, .iconst 0, 0, 0, 0, []), (75, .aload 6, 6, 0, 0, []), (77, .getfield 319, 1, 4, 0, []), (80, .iload 5, 5, 0, 0, []), (82, .isub, 0, 0, 0, []), (83, .invokestatic 92, 44, 3, 1, []), (86, .ifCond .eq (20), 6, 0, 0, []), (89, .iload 4, 4, 0, 0, []), (91, .iconst 0, 0, 0, 0, []), (92, .aload 7, 7, 0, 0, []), (94, .getfield 319, 1, 4, 0, []), (97, .iload 5, 5, 0, 0, []), (99, .isub, 0, 0, 0, []), (100, .invokestatic 92, 44, 3, 1, []), (103, .ifCond .ne (6), 7, 0, 0, []), (106, .nop, 6, 0, 0, [])])
def mk_b41_6 : List Bool × List mj_I := ([false, false, false, false, false, false, false, false], [(106, .bipush (-12), 0, 0, 0, []), (108, .ireturn, 0, 0, 0, [])])
def mk_b41_7 : List Bool × List mj_I := ([false, false, true, false, true, true, true, true], [(109, .aload 6, 6, 0, 0, []), (111, .getfield 323, 2, 4, 0, []), (114, .iload_n 2, 2, 0, 0, []), (115, .aload 7, 7, 0, 0, []), (117, .getfield 323, 2, 4, 0, []), (120, .iload 4, 4, 0, 0, []), (122, .iload 5, 5, 0, 0, []), (124, .invokestatic 326, 0, 0, 6, []), (127, .iload 5, 5, 0, 0, []), (129, .ireturn, 0, 0, 0, [])])
def mk_m41 : Nat × List (List Bool × List mj_I) := (8, [mk_b41_0, mk_b41_1, mk_b41_2, mk_b41_3, mk_b41_4, mk_b41_5, mk_b41_6, mk_b41_7])
/-- NumbersCalled.pulls(IIII)I -/
def mk_b42_0 : List Bool × List mj_I := ([true, true, true, true, true, false, false, false, false], [(0, .iload_n 1, 1, 0, 0, []), (1, .invokestatic 297, 48, 1, 1, []), (4, .ifCond .eq (23), 1, 0, 0, []), (7, .iload_n 2, 2, 0, 0, []), (8, .iconst 0, 0, 0, 0, []), (9, .iconst 2, 0, 0, 0, []), (10, .invokestatic 92, 44, 3, 1, []), (13, .ifCond .eq (14), 1, 0, 0, []), (16, .iload 4, 4, 0, 0, []), (18, .iconst 0, 0, 0, 0, []), (19, .bipush 13, 0, 0, 0, []), (21, .invokestatic 92, 44, 3, 1, []), (24, .ifCond .ne (6), 2, 0, 0, []), (27, .nop, 1, 0, 0, [])])
def mk_b42_1 : List Bool × List mj_I := ([false, false, false, false, false, false, false, false, false], [(27, .bipush (-2), 0, 0, 0, []), (29, .ireturn, 0, 0, 0, [])])
def mk_b42_2 : List Bool × List mj_I := ([true, true, true, true, true, false, false, false, false], [(30, .aload_n 0, 0, 0, 0, []), (31, .getfield 48, 7, 7, 0, []), (34, .iload_n 1, 1, 0, 0, []), (35, .aaload, 0, 0, 0, []), (36, .astore 5, 5, 0, 0, []), (38, .aload 5, 5, 0, 0, []), (40, .invokevirtual 315, 194, 1, 1, []), (43, .ifCond .eq (6), 3, 0, 0, []), (46, .bipush (-11), 0, 0, 0, []), (48, .ireturn, 0, 0, 0, [])])
def mk_b42_3 : List Bool × List mj_I := ([true, false, true, true, true, true, false, false, false], [(49, .aload 5, 5, 0, 0, []), (51, .getfield 320, 0, 4, 0, []), (54, .iload_n 2, 2, 0, 0, []), (55, .if_icmp .eq (6), 4, 0, 0, []), (58, .bipush (-13), 0, 0, 0, []), (60, .ireturn, 0, 0, 0, [])])
def mk_b42_4 : List Bool × List mj_I := ([true, false, false, true, true, true, false, false, false], [(61, .iconst 0, 0, 0, 0, []), (62, .istore 6, 6, 0, 0, []), (64, .iload_n 3, 3, 0, 0, []), (65, .istore 7, 7, 0, 0, []), (67, .iconst 0, 0, 0, 0, []), (68, .istore 8, 8, 0, 0, []), (70, .nop, 5, 0, 0, [])])
def mk_b42_5 : List Bool × List mj_I := ([true, false, false, false, true, true, true, true, true], [(70, .iload 8, 8, 0, 0, []), (72, .iload 4, 4, 0, 0, []), (74, .if_icmp .ge (69), 8, 0, 0, []), (77, .iload 7, 7, 0, 0, []), (79, .iconst 0, 0, 0, 0, []), (80, .aload 5, 5, 0, 0, []), (82, .getfield 319, 1, 4, 0, []), (85, .iconst 3, 0, 0, 0, []), (86, .isub, 0, 0, 0, []), (87, .invokestatic 92, 44, 3, 1, []), (90, .ifCond .ne (6), 6, 0, 0, []), (93, .bipush (-12), 0, 0, 0, []), (95, .ireturn, 0, 0, 0, [])])
def mk_b42_6 : List Bool × List mj_I := ([true, false, false, false, true, true, true, true, true], [(96, .aload_n 0, 0, 0, 0, []), (97, .aload 5, 5, 0, 0, []), (99, .getfield 323, 2, 4, 0, []), (102, .iload 7, 7, 0, 0, []), (104, .iaload, 0, 0, 0, []), (105, .aload 5, 5, 0, 0, []), (107, .getfield 323, 2, 4, 0, []), (110, .iload 7, 7, 0, 0, []), (112, .iconst 1, 0, 0, 0, []), (113, .iadd, 0, 0, 0, []), (114, .iaload, 0, 0, 0, []), (115, .aload 5, 5, 0, 0, []), (117, .getfield 323, 2, 4, 0, []), (120, .iload 7, 7, 0, 0, []), (122, .iconst 2, 0, 0, 0, []), (123, .iadd, 0, 0, 0, []), (124, .iaload, 0, 0, 0, []), (125, .invokevirtual 332, 8, 4, 1, []), (128, .ifCond .lt (6), 7, 0, 0, []), (131, .iinc 6 1, 6, 0, 0, []), (134, .nop, 7, 0, 0, [])])
def mk_b42_7 : List Bool × List mj_I := ([true, false, false, false, true, true, true, true, true], [(134, .iinc 7 3, 7, 0, 0, []), (137, .iinc 8 1, 8, 0, 0, []), (140, .goto (-70), 5, 0, 0, [])])
def mk_b42_8 : List Bool × List mj_I := ([false, false, false, false, false, false, true, false, false], [(143, .iload 6, 6, 0, 0, []), (145, .ireturn, 0, 0, 0, [])])
def mk_m42 : Nat × List (List Bool × List mj_I) := (9, [mk_b42_0, mk_b42_1, mk_b42_2, mk_b42_3, mk_b42_4, mk_b42_5, mk_b42_6, mk_b42_7, mk_b42_8])
/-- NumbersCalled.taken(II)I -/
def mk_b43_0 : List Bool × List mj_I := ([true, true, true, false, false], [(0, .iload_n 2, 2, 0, 0, []), (1, .iconst 0, 0, 0, 0, []), (2, .bipush 6, 0, 0, 0, []), (4, .invokestatic 92, 44, 3, 1, []), (7, .ifCond .ne (6), 1, 0, 0, []), (10, .bipush (-2), 0, 0, 0, []), (12, .ireturn, 0, 0, 0, [])])
def mk_b43_1 : List Bool × List mj_I := ([true, true, true, false, false], [(13, .iload_n 1, 1, 0, 0, []), (14, .iconst 0, 0, 0, 0, []), (15, .bipush 19, 0, 0, 0, []), (17, .invokestatic 92, 44, 3, 1, []), (20, .ifCond .ne (6), 2, 0, 0, []), (23, .bipush (-12), 0, 0, 0, []), (25, .ireturn, 0, 0, 0, [])])
def mk_b43_2 : List Bool × List mj_I := ([true, true, true, false, false], [(26, .iload_n 2, 2, 0, 0, []), (27, .bipush 6, 0, 0, 0, []), (29, .if_icmp .ne (7), 3, 0, 0, []), (32, .iconst 1, 0, 0, 0, []), (33, .goto (4), 4, 0, 0, [])])
def mk_b43_3 : List Bool × List mj_I := ([true, true, true, false, false], [(36, .iconst 0, 0, 0, 0, []), (37, .nop, 4, 0, 0, [])])
def mk_b43_4 : List Bool × List mj_I := ([true, true, true, false, false], [(37, .istore_n 3, 3, 0, 0, []), (38, .iload_n 1, 1, 0, 0, []), (39, .iconst 4, 0, 0, 0, []), (40, .if_icmp .ge (33), 8, 0, 0, []), (43, .aload_n 0, 0, 0, 0, []), (44, .iload_n 1, 1, 0, 0, []), (45, .invokevirtual 109, 49, 2, 1, []), (48, .ifCond .ne (6), 5, 0, 0, []), (51, .bipush (-11), 0, 0, 0, []), (53, .ireturn, 0, 0, 0, [])])
def mk_b43_5 : List Bool × List mj_I := ([true, true, false, true, false], [(54, .iload_n 3, 3, 0, 0, []), (55, .ifCond .eq (15), 6, 0, 0, []), (58, .aload_n 0, 0, 0, 0, []), (59, .getfield 10, 0, 7, 0, []), (62, .getfield 99, 1, 3, 0, []), (65, .iload_n 1, 1, 0, 0, []), (66, .iaload, 0, 0, 0, []), (67, .goto (5), 7, 0, 0, [])])
def mk_b43_6 : List Bool × List mj_I := ([false, false, false, false, false], [(70, .bipush (-13), 0, 0, 0, []), (72, .nop, 7, 0, 0, [])])
def mk_b43_7 : List Bool × List mj_I := ([false, false, false, false, false], [(72, .ireturn, 0, 0, 0, [])])
def mk_b43_8 : List Bool × List mj_I := ([true, true, true, true, false], [(73, .iload_n 1, 1, 0, 0, []), (74, .iconst 4, 0, 0, 0, []), (75, .isub, 0, 0, 0, []), (76, .istore 4, 4, 0, 0, []), (78, .aload_n 0, 0, 0, 0, []), (79, .iload 4, 4, 0, 0, []), (81, .invokevirtual 164, 50, 2, 1, []), (84, .ifCond .ne (6), 9, 0, 0, []), (87, .bipush (-11), 0, 0, 0, []), (89, .ireturn, 0, 0, 0, [])])
def mk_b43_9 : List Bool × List mj_I := ([true, false, true, true, true], [(90, .iload_n 3, 3, 0, 0, []), (91, .ifCond .ne (22), 10, 0, 0, []), (94, .aload_n 0, 0, 0, 0, []), (95, .getfield 25, 3, 7, 0, []), (98, .iload 4, 4, 0, 0, []), (100, .aaload, 0, 0, 0, []), (101, .iload_n 2, 2, 0, 0, []), (102, .invokevirtual 336, 164, 2, 1, []), (105, .ifCond .eq (8), 10, 0, 0, []), (108, .iload 4, 4, 0, 0, []), (110, .goto (5), 11, 0, 0, [])])
def mk_b43_10 : List Bool × List mj_I := ([false, false, false, false, false], [(113, .bipush (-13), 0, 0, 0, []), (115, .nop, 11, 0, 0, [])])
def mk_b43_11 : List Bool × List mj_I := ([false, false, false, false, false], [(115, .ireturn, 0, 0, 0, [])])
def mk_m43 : Nat × List (List Bool × List mj_I) := (5, [mk_b43_0, mk_b43_1, mk_b43_2, mk_b43_3, mk_b43_4, mk_b43_5, mk_b43_6, mk_b43_7, mk_b43_8, mk_b43_9, mk_b43_10, mk_b43_11])
/-- NumbersCalled.within(III)Z -/
def mk_b44_0 : List Bool × List mj_I := ([true, true, true], [(0, .iload_n 0, 0, 0, 0, []), (1, .iload_n 1, 1, 0, 0, []), (2, .if_icmp .lt (12), 1, 0, 0, []), (5, .iload_n 0, 0, 0, 0, []), (6, .iload_n 2, 2, 0, 0, []), (7, .if_icmp .gt (7), 1, 0, 0, []), (10, .iconst 1, 0, 0, 0, []), (11, .goto (4), 2, 0, 0, [])])
def mk_b44_1 : List Bool × List mj_I := ([false, false, false], [(14, .iconst 0, 0, 0, 0, []), (15, .nop, 2, 0, 0, [])])
def mk_b44_2 : List Bool × List mj_I := ([false, false, false], [(15, .ireturn, 0, 0, 1, [])])
def mk_m44 : Nat × List (List Bool × List mj_I) := (3, [mk_b44_0, mk_b44_1, mk_b44_2])
/-- NumbersCalled.bounded(III)I -/
def mk_b45_0 : List Bool × List mj_I := ([true, true, true], [(0, .iload_n 0, 0, 0, 0, []), (1, .iload_n 1, 1, 0, 0, []), (2, .if_icmp .ge (5), 1, 0, 0, []), (5, .iload_n 1, 1, 0, 0, []), (6, .ireturn, 0, 0, 0, [])])
def mk_b45_1 : List Bool × List mj_I := ([true, false, true], [(7, .iload_n 0, 0, 0, 0, []), (8, .iload_n 2, 2, 0, 0, []), (9, .if_icmp .le (7), 2, 0, 0, []), (12, .iload_n 2, 2, 0, 0, []), (13, .goto (4), 3, 0, 0, [])])
def mk_b45_2 : List Bool × List mj_I := ([true, false, false], [(16, .iload_n 0, 0, 0, 0, []), (17, .nop, 3, 0, 0, [])])
def mk_b45_3 : List Bool × List mj_I := ([false, false, false], [(17, .ireturn, 0, 0, 0, [])])
def mk_m45 : Nat × List (List Bool × List mj_I) := (3, [mk_b45_0, mk_b45_1, mk_b45_2, mk_b45_3])
/-- NumbersCalled.isByte(I)Z -/
def mk_b46_0 : List Bool × List mj_I := ([true], [(0, .iload_n 0, 0, 0, 0, []), (1, .iconst 0, 0, 0, 0, []), (2, .sipush 255, 0, 0, 0, []), (5, .invokestatic 92, 44, 3, 1, []), (8, .ireturn, 0, 0, 1, [])])
def mk_m46 : Nat × List (List Bool × List mj_I) := (1, [mk_b46_0])
/-- NumbersCalled.isPull(I)Z -/
def mk_b47_0 : List Bool × List mj_I := ([true], [(0, .iload_n 0, 0, 0, 0, []), (1, .iconst 0, 0, 0, 0, []), (2, .sipush 3999, 0, 0, 0, []), (5, .invokestatic 92, 44, 3, 1, []), (8, .ifCond .eq (17), 1, 0, 0, []), (11, .iload_n 0, 0, 0, 0, []), (12, .bipush 10, 0, 0, 0, []), (14, .idiv, 0, 0, 0, []), (15, .bipush 100, 0, 0, 0, []), (17, .irem, 0, 0, 0, []), (18, .ifCond .le (7), 1, 0, 0, []), (21, .iconst 1, 0, 0, 0, []), (22, .goto (4), 2, 0, 0, [])])
def mk_b47_1 : List Bool × List mj_I := ([false], [(25, .iconst 0, 0, 0, 0, []), (26, .nop, 2, 0, 0, [])])
def mk_b47_2 : List Bool × List mj_I := ([false], [(26, .ireturn, 0, 0, 1, [])])
def mk_m47 : Nat × List (List Bool × List mj_I) := (1, [mk_b47_0, mk_b47_1, mk_b47_2])
/-- NumbersCalled.isSheet(I)Z -/
def mk_b48_0 : List Bool × List mj_I := ([true], [(0, .iload_n 0, 0, 0, 0, []), (1, .iconst 0, 0, 0, 0, []), (2, .iconst 3, 0, 0, 0, []), (3, .invokestatic 92, 44, 3, 1, []), (6, .ireturn, 0, 0, 1, [])])
def mk_m48 : Nat × List (List Bool × List mj_I) := (1, [mk_b48_0])
/-- NumbersCalled.isCounter(I)Z -/
def mk_b49_0 : List Bool × List mj_I := ([true, true], [(0, .iload_n 1, 1, 0, 0, []), (1, .iconst 0, 0, 0, 0, []), (2, .aload_n 0, 0, 0, 0, []), (3, .getfield 10, 0, 7, 0, []), (6, .getfield 96, 0, 3, 0, []), (9, .iconst 1, 0, 0, 0, []), (10, .isub, 0, 0, 0, []), (11, .invokestatic 92, 44, 3, 1, []), (14, .ireturn, 0, 0, 1, [])])
def mk_m49 : Nat × List (List Bool × List mj_I) := (2, [mk_b49_0])
/-- NumbersCalled.isAsker(I)Z -/
def mk_b50_0 : List Bool × List mj_I := ([true, true], [(0, .iload_n 1, 1, 0, 0, []), (1, .iconst 0, 0, 0, 0, []), (2, .aload_n 0, 0, 0, 0, []), (3, .getfield 10, 0, 7, 0, []), (6, .getfield 137, 4, 3, 0, []), (9, .iconst 1, 0, 0, 0, []), (10, .isub, 0, 0, 0, []), (11, .invokestatic 92, 44, 3, 1, []), (14, .ireturn, 0, 0, 1, [])])
def mk_m50 : Nat × List (List Bool × List mj_I) := (2, [mk_b50_0])
/-- NumbersCalled.isOfCounter(II)Z -/
def mk_b51_0 : List Bool × List mj_I := ([true, true], [(0, .iload_n 0, 0, 0, 0, []), (1, .tableswitch (51) 0 2 #[27, 35, 43], 4, 0, 0, [(0, 1), (1, 2), (2, 3)])])
def mk_b51_1 : List Bool × List mj_I := ([false, true], [(28, .iload_n 1, 1, 0, 0, []), (29, .iconst 0, 0, 0, 0, []), (30, .bipush 15, 0, 0, 0, []), (32, .invokestatic 92, 44, 3, 1, []), (35, .ireturn, 0, 0, 1, [])])
def mk_b51_2 : List Bool × List mj_I := ([false, true], [(36, .iload_n 1, 1, 0, 0, []), (37, .iconst 0, 0, 0, 0, []), (38, .bipush 9, 0, 0, 0, []), (40, .invokestatic 92, 44, 3, 1, []), (43, .ireturn, 0, 0, 1, [])])
def mk_b51_3 : List Bool × List mj_I := ([false, true], [(44, .iload_n 1, 1, 0, 0, []), (45, .iconst (-1), 0, 0, 0, []), (46, .bipush 119, 0, 0, 0, []), (48, .invokestatic 92, 44, 3, 1, []), (51, .ireturn, 0, 0, 1, [])])
def mk_b51_4 : List Bool × List mj_I := ([false, false], [(52, .iconst 0, 0, 0, 0, []), (53, .ireturn, 0, 0, 1, [])])
def mk_m51 : Nat × List (List Bool × List mj_I) := (2, [mk_b51_0, mk_b51_1, mk_b51_2, mk_b51_3, mk_b51_4])
/-- NumbersCalled.ofCounter(II)I -/
def mk_b52_0 : List Bool × List mj_I := ([true, true, true], [(0, .iload_n 2, 2, 0, 0, []), (1, .lookupswitch (47) #[(0, 27), (1, 37)], 3, 0, 0, [(0, 1), (1, 2)])])
def mk_b52_1 : List Bool × List mj_I := ([true, true, false], [(28, .aload_n 0, 0, 0, 0, []), (29, .getfield 10, 0, 7, 0, []), (32, .getfield 99, 1, 3, 0, []), (35, .iload_n 1, 1, 0, 0, []), (36, .iaload, 0, 0, 0, []), (37, .ireturn, 0, 0, 0, [])])
def mk_b52_2 : List Bool × List mj_I := ([true, true, false], [(38, .aload_n 0, 0, 0, 0, []), (39, .getfield 10, 0, 7, 0, []), (42, .getfield 103, 2, 3, 0, []), (45, .iload_n 1, 1, 0, 0, []), (46, .iaload, 0, 0, 0, []), (47, .ireturn, 0, 0, 0, [])])
def mk_b52_3 : List Bool × List mj_I := ([true, true, false], [(48, .aload_n 0, 0, 0, 0, []), (49, .getfield 10, 0, 7, 0, []), (52, .getfield 106, 3, 3, 0, []), (55, .iload_n 1, 1, 0, 0, []), (56, .iaload, 0, 0, 0, []), (57, .ireturn, 0, 0, 0, [])])
def mk_m52 : Nat × List (List Bool × List mj_I) := (3, [mk_b52_0, mk_b52_1, mk_b52_2, mk_b52_3])
/-- NumbersCalled.isOfHall(II)Z -/
def mk_b53_0 : List Bool × List mj_I := ([true, true], [(0, .iload_n 0, 0, 0, 0, []), (1, .lookupswitch (42) #[(0, 27), (1, 34)], 3, 0, 0, [(0, 1), (1, 2)])])
def mk_b53_1 : List Bool × List mj_I := ([false, true], [(28, .iload_n 1, 1, 0, 0, []), (29, .iconst 0, 0, 0, 0, []), (30, .iconst 3, 0, 0, 0, []), (31, .invokestatic 92, 44, 3, 1, []), (34, .ireturn, 0, 0, 1, [])])
def mk_b53_2 : List Bool × List mj_I := ([false, true], [(35, .iload_n 1, 1, 0, 0, []), (36, .iconst 1, 0, 0, 0, []), (37, .bipush 9, 0, 0, 0, []), (39, .invokestatic 92, 44, 3, 1, []), (42, .ireturn, 0, 0, 1, [])])
def mk_b53_3 : List Bool × List mj_I := ([false, true], [(43, .iload_n 1, 1, 0, 0, []), (44, .iconst 0, 0, 0, 0, []), (45, .bipush 120, 0, 0, 0, []), (47, .invokestatic 92, 44, 3, 1, []), (50, .ireturn, 0, 0, 1, [])])
def mk_m53 : Nat × List (List Bool × List mj_I) := (2, [mk_b53_0, mk_b53_1, mk_b53_2, mk_b53_3])
/-- NumbersCalled.ofHall(I)I -/
def mk_b54_0 : List Bool × List mj_I := ([true, true], [(0, .iload_n 1, 1, 0, 0, []), (1, .lookupswitch (43) #[(0, 27), (1, 35)], 3, 0, 0, [(0, 1), (1, 2)])])
def mk_b54_1 : List Bool × List mj_I := ([true, false], [(28, .aload_n 0, 0, 0, 0, []), (29, .getfield 10, 0, 7, 0, []), (32, .getfield 128, 6, 3, 0, []), (35, .ireturn, 0, 0, 0, [])])
def mk_b54_2 : List Bool × List mj_I := ([true, false], [(36, .aload_n 0, 0, 0, 0, []), (37, .getfield 10, 0, 7, 0, []), (40, .getfield 131, 7, 3, 0, []), (43, .ireturn, 0, 0, 0, [])])
def mk_b54_3 : List Bool × List mj_I := ([true, false], [(44, .aload_n 0, 0, 0, 0, []), (45, .getfield 10, 0, 7, 0, []), (48, .getfield 134, 8, 3, 0, []), (51, .ireturn, 0, 0, 0, [])])
def mk_m54 : Nat × List (List Bool × List mj_I) := (2, [mk_b54_0, mk_b54_1, mk_b54_2, mk_b54_3])
/-- NumbersCalled.refusalOfRoll(I)I -/
def mk_b55_0 : List Bool × List mj_I := ([true, true], [(0, .iload_n 1, 1, 0, 0, []), (1, .invokestatic 297, 48, 1, 1, []), (4, .ifCond .ne (6), 1, 0, 0, []), (7, .bipush (-2), 0, 0, 0, []), (9, .ireturn, 0, 0, 0, [])])
def mk_b55_1 : List Bool × List mj_I := ([true, true], [(10, .aload_n 0, 0, 0, 0, []), (11, .getfield 48, 7, 7, 0, []), (14, .iload_n 1, 1, 0, 0, []), (15, .aaload, 0, 0, 0, []), (16, .invokevirtual 315, 194, 1, 1, []), (19, .ifCond .eq (6), 2, 0, 0, []), (22, .bipush (-11), 0, 0, 0, []), (24, .ireturn, 0, 0, 0, [])])
def mk_b55_2 : List Bool × List mj_I := ([true, true], [(25, .aload_n 0, 0, 0, 0, []), (26, .getfield 48, 7, 7, 0, []), (29, .iload_n 1, 1, 0, 0, []), (30, .aaload, 0, 0, 0, []), (31, .getfield 319, 1, 4, 0, []), (34, .aload_n 0, 0, 0, 0, []), (35, .getfield 10, 0, 7, 0, []), (38, .getfield 137, 4, 3, 0, []), (41, .if_icmp .ne (7), 3, 0, 0, []), (44, .iconst 0, 0, 0, 0, []), (45, .goto (5), 4, 0, 0, [])])
def mk_b55_3 : List Bool × List mj_I := ([false, false], [(48, .bipush (-2), 0, 0, 0, []), (50, .nop, 4, 0, 0, [])])
def mk_b55_4 : List Bool × List mj_I := ([false, false], [(50, .ireturn, 0, 0, 0, [])])
def mk_m55 : Nat × List (List Bool × List mj_I) := (2, [mk_b55_0, mk_b55_1, mk_b55_2, mk_b55_3, mk_b55_4])
/-- NumbersCalled.planAsItIs()V -/
def mk_b56_0 : List Bool × List mj_I := ([true], [(0, .aload_n 0, 0, 0, 0, []), (1, .getfield 55, 8, 7, 0, []), (4, .getfield 234, 0, 1, 0, []), (7, .aload_n 0, 0, 0, 0, []), (8, .getfield 10, 0, 7, 0, []), (11, .invokevirtual 312, 191, 2, 0, []), (14, .return_, 0, 0, 0, [])])
def mk_m56 : Nat × List (List Bool × List mj_I) := (1, [mk_b56_0])
/-- NumbersCalled.live()V -/
def mk_b57_0 : List Bool × List mj_I := ([true], [(0, .aload_n 0, 0, 0, 0, []), (1, .getfield 55, 8, 7, 0, []), (4, .aload_n 0, 0, 0, 0, []), (5, .getfield 25, 3, 7, 0, []), (8, .aload_n 0, 0, 0, 0, []), (9, .getfield 31, 4, 7, 0, []), (12, .aload_n 0, 0, 0, 0, []), (13, .getfield 55, 8, 7, 0, []), (16, .getfield 234, 0, 1, 0, []), (19, .getfield 139, 9, 3, 0, []), (22, .aaload, 0, 0, 0, []), (23, .invokevirtual 339, 170, 3, 0, []), (26, .return_, 0, 0, 0, [])])
def mk_m57 : Nat × List (List Bool × List mj_I) := (1, [mk_b57_0])
/-- NumbersCalled.liveAsItIs()V -/
def mk_b58_0 : List Bool × List mj_I := ([true], [(0, .aload_n 0, 0, 0, 0, []), (1, .invokevirtual 249, 56, 1, 0, []), (4, .aload_n 0, 0, 0, 0, []), (5, .invokevirtual 237, 57, 1, 0, []), (8, .return_, 0, 0, 0, [])])
def mk_m58 : Nat × List (List Bool × List mj_I) := (1, [mk_b58_0])
/-- NumbersCalled.planDrawn(I)V -/
def mk_b59_0 : List Bool × List mj_I := ([true, true, false, false, false, false], [(0, .aload_n 0, 0, 0, 0, []), (1, .invokevirtual 249, 56, 1, 0, []), (4, .iload_n 1, 1, 0, 0, []), (5, .i2l, 0, 0, 0, []), (6, .lconst 1, 0, 0, 0, []), (7, .ladd, 0, 0, 0, []), (8, .lstore_n 2, 2, 0, 0, []), (9, .iconst 0, 0, 0, 0, []), (10, .istore 4, 4, 0, 0, []), (12, .nop, 1, 0, 0, [])])
def mk_b59_1 : List Bool × List mj_I := ([true, false, true, false, true, false], [(12, .iload 4, 4, 0, 0, []), (14, .aload_n 0, 0, 0, 0, []), (15, .getfield 10, 0, 7, 0, []), (18, .getfield 137, 4, 3, 0, []), (21, .if_icmp .ge (62), 2, 0, 0, []), (24, .lload_n 2, 2, 0, 0, []), (25, .ldc2_w 343, 3, 0, 0, []), (28, .lmul, 0, 0, 0, []), (29, .ldc2_w 345, 4, 0, 0, []), (32, .lrem, 0, 0, 0, []), (33, .lstore_n 2, 2, 0, 0, []), (34, .lload_n 2, 2, 0, 0, []), (35, .ldc2_w 347, 5, 0, 0, []), (38, .lrem, 0, 0, 0, []), (39, .l2i, 0, 0, 0, []), (40, .bipush 10, 0, 0, 0, []), (42, .isub, 0, 0, 0, []), (43, .istore 5, 5, 0, 0, []), (45, .aload_n 0, 0, 0, 0, []), (46, .getfield 55, 8, 7, 0, []), (49, .getfield 234, 0, 1, 0, []), (52, .getfield 161, 5, 3, 0, []), (55, .iload 4, 4, 0, 0, []), (57, .aload_n 0, 0, 0, 0, []), (58, .getfield 10, 0, 7, 0, []), (61, .getfield 161, 5, 3, 0, []), (64, .iload 4, 4, 0, 0, []), (66, .iaload, 0, 0, 0, []), (67, .iload 5, 5, 0, 0, []), (69, .iadd, 0, 0, 0, []), (70, .iconst 0, 0, 0, 0, []), (71, .bipush 119, 0, 0, 0, []), (73, .invokestatic 349, 45, 3, 1, []), (76, .iastore, 0, 0, 0, []), (77, .iinc 4 1, 4, 0, 0, []), (80, .goto (-68), 1, 0, 0, [])])
def mk_b59_2 : List Bool × List mj_I := ([false, false, false, false, false, false], [(83, .return_, 0, 0, 0, [])])
def mk_m59 : Nat × List (List Bool × List mj_I) := (6, [mk_b59_0, mk_b59_1, mk_b59_2])
/-- NumbersCalled.isTrained(III)Z -/
def mk_b60_0 : List Bool × List mj_I := ([true, true, true, true], [(0, .aload_n 0, 0, 0, 0, []), (1, .invokevirtual 249, 56, 1, 0, []), (4, .aload_n 0, 0, 0, 0, []), (5, .getfield 55, 8, 7, 0, []), (8, .getfield 234, 0, 1, 0, []), (11, .iload_n 1, 1, 0, 0, []), (12, .invokevirtual 352, 192, 2, 0, []), (15, .aload_n 0, 0, 0, 0, []), (16, .getfield 55, 8, 7, 0, []), (19, .getfield 234, 0, 1, 0, []), (22, .iload_n 2, 2, 0, 0, []), (23, .invokevirtual 352, 192, 2, 0, []), (26, .aload_n 0, 0, 0, 0, []), (27, .invokevirtual 237, 57, 1, 0, []), (30, .aload_n 0, 0, 0, 0, []), (31, .getfield 55, 8, 7, 0, []), (34, .iconst 2, 0, 0, 0, []), (35, .invokevirtual 355, 180, 2, 1, []), (38, .aload_n 0, 0, 0, 0, []), (39, .getfield 10, 0, 7, 0, []), (42, .getfield 137, 4, 3, 0, []), (45, .if_icmp .ne (18), 1, 0, 0, []), (48, .aload_n 0, 0, 0, 0, []), (49, .getfield 55, 8, 7, 0, []), (52, .invokevirtual 358, 182, 1, 1, []), (55, .iload_n 3, 3, 0, 0, []), (56, .if_icmp .gt (7), 1, 0, 0, []), (59, .iconst 1, 0, 0, 0, []), (60, .goto (4), 2, 0, 0, [])])
def mk_b60_1 : List Bool × List mj_I := ([false, false, false, false], [(63, .iconst 0, 0, 0, 0, []), (64, .nop, 2, 0, 0, [])])
def mk_b60_2 : List Bool × List mj_I := ([false, false, false, false], [(64, .ireturn, 0, 0, 1, [])])
def mk_m60 : Nat × List (List Bool × List mj_I) := (4, [mk_b60_0, mk_b60_1, mk_b60_2])
/-- NumbersCalled.skillName(I)I -/
def mk_b61_0 : List Bool × List mj_I := ([true], [(0, .iload_n 0, 0, 0, 0, []), (1, .iconst 4, 0, 0, 0, []), (2, .idiv, 0, 0, 0, []), (3, .bipush 10, 0, 0, 0, []), (5, .imul, 0, 0, 0, []), (6, .iload_n 0, 0, 0, 0, []), (7, .iconst 4, 0, 0, 0, []), (8, .irem, 0, 0, 0, []), (9, .iadd, 0, 0, 0, []), (10, .ireturn, 0, 0, 0, [])])
def mk_m61 : Nat × List (List Bool × List mj_I) := (1, [mk_b61_0])
/-- NumbersCalled.someoneComes(I)Z -/
def mk_b62_0 : List Bool × List mj_I := ([true, true, false], [(0, .iconst 0, 0, 0, 0, []), (1, .istore_n 2, 2, 0, 0, []), (2, .nop, 1, 0, 0, [])])
def mk_b62_1 : List Bool × List mj_I := ([true, true, true], [(2, .iload_n 2, 2, 0, 0, []), (3, .aload_n 0, 0, 0, 0, []), (4, .getfield 10, 0, 7, 0, []), (7, .getfield 137, 4, 3, 0, []), (10, .if_icmp .ge (24), 3, 0, 0, []), (13, .aload_n 0, 0, 0, 0, []), (14, .getfield 10, 0, 7, 0, []), (17, .getfield 161, 5, 3, 0, []), (20, .iload_n 2, 2, 0, 0, []), (21, .iaload, 0, 0, 0, []), (22, .iload_n 1, 1, 0, 0, []), (23, .if_icmp .ne (5), 2, 0, 0, []), (26, .iconst 1, 0, 0, 0, []), (27, .ireturn, 0, 0, 1, [])])
def mk_b62_2 : List Bool × List mj_I := ([true, true, true], [(28, .iinc 2 1, 2, 0, 0, []), (31, .goto (-29), 1, 0, 0, [])])
def mk_b62_3 : List Bool × List mj_I := ([false, false, false], [(34, .iconst 0, 0, 0, 0, []), (35, .ireturn, 0, 0, 1, [])])
def mk_m62 : Nat × List (List Bool × List mj_I) := (3, [mk_b62_0, mk_b62_1, mk_b62_2, mk_b62_3])
/-- NumbersCalled.waitsOfOthers(I)I -/
def mk_b63_0 : List Bool × List mj_I := ([true, true, false, false, false], [(0, .iconst 0, 0, 0, 0, []), (1, .istore_n 2, 2, 0, 0, []), (2, .iconst 0, 0, 0, 0, []), (3, .istore_n 3, 3, 0, 0, []), (4, .nop, 1, 0, 0, [])])
def mk_b63_1 : List Bool × List mj_I := ([true, true, true, true, false], [(4, .iload_n 3, 3, 0, 0, []), (5, .aload_n 0, 0, 0, 0, []), (6, .getfield 10, 0, 7, 0, []), (9, .getfield 137, 4, 3, 0, []), (12, .if_icmp .ge (79), 7, 0, 0, []), (15, .iload_n 1, 1, 0, 0, []), (16, .iconst 1, 0, 0, 0, []), (17, .if_icmp .ne (15), 2, 0, 0, []), (20, .aload_n 0, 0, 0, 0, []), (21, .getfield 25, 3, 7, 0, []), (24, .iload_n 3, 3, 0, 0, []), (25, .aaload, 0, 0, 0, []), (26, .invokevirtual 361, 165, 1, 1, []), (29, .ifCond .ne (20), 3, 0, 0, []), (32, .nop, 2, 0, 0, [])])
def mk_b63_2 : List Bool × List mj_I := ([true, true, true, true, false], [(32, .iload_n 1, 1, 0, 0, []), (33, .iconst 3, 0, 0, 0, []), (34, .if_icmp .ne (19), 4, 0, 0, []), (37, .aload_n 0, 0, 0, 0, []), (38, .getfield 25, 3, 7, 0, []), (41, .iload_n 3, 3, 0, 0, []), (42, .aaload, 0, 0, 0, []), (43, .invokevirtual 364, 166, 1, 1, []), (46, .ifCond .eq (7), 4, 0, 0, []), (49, .nop, 3, 0, 0, [])])
def mk_b63_3 : List Bool × List mj_I := ([true, true, true, true, false], [(49, .iconst 1, 0, 0, 0, []), (50, .goto (4), 5, 0, 0, [])])
def mk_b63_4 : List Bool × List mj_I := ([true, true, true, true, false], [(53, .iconst 0, 0, 0, 0, []), (54, .nop, 5, 0, 0, [])])
def mk_b63_5 : List Bool × List mj_I := ([true, true, true, true, false], [(54, .istore 4, 4, 0, 0, []), (56, .iload 4, 4, 0, 0, []), (58, .ifCond .ne (27), 6, 0, 0, []), (61, .aload_n 0, 0, 0, 0, []), (62, .getfield 55, 8, 7, 0, []), (65, .getfield 200, 1, 1, 0, []), (68, .iload_n 3, 3, 0, 0, []), (69, .iaload, 0, 0, 0, []), (70, .iconst 2, 0, 0, 0, []), (71, .if_icmp .ne (14), 6, 0, 0, []), (74, .iload_n 2, 2, 0, 0, []), (75, .aload_n 0, 0, 0, 0, []), (76, .getfield 55, 8, 7, 0, []), (79, .iload_n 3, 3, 0, 0, []), (80, .invokevirtual 212, 178, 2, 1, []), (83, .iadd, 0, 0, 0, []), (84, .istore_n 2, 2, 0, 0, []), (85, .nop, 6, 0, 0, [])])
def mk_b63_6 : List Bool × List mj_I := ([true, true, true, true, false], [(85, .iinc 3 1, 3, 0, 0, []), (88, .goto (-84), 1, 0, 0, [])])
def mk_b63_7 : List Bool × List mj_I := ([false, false, true, false, false], [(91, .iload_n 2, 2, 0, 0, []), (92, .ireturn, 0, 0, 0, [])])
def mk_m63 : Nat × List (List Bool × List mj_I) := (5, [mk_b63_0, mk_b63_1, mk_b63_2, mk_b63_3, mk_b63_4, mk_b63_5, mk_b63_6, mk_b63_7])
/-- NumbersCalled.minded(LNumbersCalled$Asker;II)I -/
def mk_b64_0 : List Bool × List mj_I := ([true, true, true, true], [(0, .aload_n 0, 0, 0, 0, []), (1, .getfield 31, 4, 7, 0, []), (4, .aload_n 0, 0, 0, 0, []), (5, .getfield 10, 0, 7, 0, []), (8, .getfield 139, 9, 3, 0, []), (11, .aaload, 0, 0, 0, []), (12, .iconst 2, 0, 0, 0, []), (13, .aload_n 1, 1, 0, 0, []), (14, .iload_n 2, 2, 0, 0, []), (15, .iconst 0, 0, 0, 0, []), (16, .iload_n 3, 3, 0, 0, []), (17, .invokevirtual 182, 215, 6, 1, []), (20, .iconst 0, 0, 0, 0, []), (21, .sipush 999, 0, 0, 0, []), (24, .invokestatic 349, 45, 3, 1, []), (27, .ireturn, 0, 0, 0, [])])
def mk_m64 : Nat × List (List Bool × List mj_I) := (4, [mk_b64_0])
/-- NumbersCalled.seekBest(I)V -/
def mk_b65_0 : List Bool × List mj_I := ([true, true, false], [(0, .aload_n 0, 0, 0, 0, []), (1, .getfield 62, 9, 7, 0, []), (4, .invokevirtual 227, 188, 1, 0, []), (7, .iconst 0, 0, 0, 0, []), (8, .istore_n 2, 2, 0, 0, []), (9, .nop, 1, 0, 0, [])])
def mk_b65_1 : List Bool × List mj_I := ([true, true, true], [(9, .iload_n 2, 2, 0, 0, []), (10, .bipush 100, 0, 0, 0, []), (12, .if_icmp .gt (42), 2, 0, 0, []), (15, .aload_n 0, 0, 0, 0, []), (16, .getfield 55, 8, 7, 0, []), (19, .getfield 234, 0, 1, 0, []), (22, .getfield 161, 5, 3, 0, []), (25, .iload_n 1, 1, 0, 0, []), (26, .iload_n 2, 2, 0, 0, []), (27, .iastore, 0, 0, 0, []), (28, .aload_n 0, 0, 0, 0, []), (29, .invokevirtual 237, 57, 1, 0, []), (32, .aload_n 0, 0, 0, 0, []), (33, .getfield 62, 9, 7, 0, []), (36, .iload_n 2, 2, 0, 0, []), (37, .aload_n 0, 0, 0, 0, []), (38, .getfield 55, 8, 7, 0, []), (41, .iload_n 1, 1, 0, 0, []), (42, .invokevirtual 367, 179, 2, 1, []), (45, .invokevirtual 230, 189, 3, 0, []), (48, .iinc 2 20, 2, 0, 0, []), (51, .goto (-42), 1, 0, 0, [])])
def mk_b65_2 : List Bool × List mj_I := ([false, false, false], [(54, .return_, 0, 0, 0, [])])
def mk_m65 : Nat × List (List Bool × List mj_I) := (3, [mk_b65_0, mk_b65_1, mk_b65_2])
/-- NumbersCalled.wouldMove(I)Z -/
def mk_b66_0 : List Bool × List mj_I := ([true, true, false], [(0, .aload_n 0, 0, 0, 0, []), (1, .invokevirtual 197, 58, 1, 0, []), (4, .aload_n 0, 0, 0, 0, []), (5, .getfield 55, 8, 7, 0, []), (8, .iload_n 1, 1, 0, 0, []), (9, .invokevirtual 367, 179, 2, 1, []), (12, .istore_n 2, 2, 0, 0, []), (13, .aload_n 0, 0, 0, 0, []), (14, .iload_n 1, 1, 0, 0, []), (15, .invokevirtual 267, 65, 2, 0, []), (18, .aload_n 0, 0, 0, 0, []), (19, .getfield 62, 9, 7, 0, []), (22, .getfield 370, 1, 2, 0, []), (25, .iload_n 2, 2, 0, 0, []), (26, .if_icmp .ge (7), 1, 0, 0, []), (29, .iconst 1, 0, 0, 0, []), (30, .goto (4), 2, 0, 0, [])])
def mk_b66_1 : List Bool × List mj_I := ([false, false, false], [(33, .iconst 0, 0, 0, 0, []), (34, .nop, 2, 0, 0, [])])
def mk_b66_2 : List Bool × List mj_I := ([false, false, false], [(34, .ireturn, 0, 0, 1, [])])
def mk_m66 : Nat × List (List Bool × List mj_I) := (3, [mk_b66_0, mk_b66_1, mk_b66_2])
/-- NumbersCalled.firstOtherwise(LNumbersCalled$Sheet;)I -/
def mk_b67_0 : List Bool × List mj_I := ([true, true, false], [(0, .iconst 0, 0, 0, 0, []), (1, .istore_n 2, 2, 0, 0, []), (2, .nop, 1, 0, 0, [])])
def mk_b67_1 : List Bool × List mj_I := ([true, true, true], [(2, .iload_n 2, 2, 0, 0, []), (3, .aload_n 0, 0, 0, 0, []), (4, .getfield 10, 0, 7, 0, []), (7, .getfield 137, 4, 3, 0, []), (10, .if_icmp .ge (29), 3, 0, 0, []), (13, .aload_n 1, 1, 0, 0, []), (14, .getfield 323, 2, 4, 0, []), (17, .iload_n 2, 2, 0, 0, []), (18, .iaload, 0, 0, 0, []), (19, .aload_n 0, 0, 0, 0, []), (20, .getfield 55, 8, 7, 0, []), (23, .getfield 206, 3, 1, 0, []), (26, .iload_n 2, 2, 0, 0, []), (27, .iaload, 0, 0, 0, []), (28, .if_icmp .eq (5), 2, 0, 0, []), (31, .iload_n 2, 2, 0, 0, []), (32, .ireturn, 0, 0, 0, [])])
def mk_b67_2 : List Bool × List mj_I := ([true, true, true], [(33, .iinc 2 1, 2, 0, 0, []), (36, .goto (-34), 1, 0, 0, [])])
def mk_b67_3 : List Bool × List mj_I := ([false, false, false], [(39, .iconst (-1), 0, 0, 0, []), (40, .ireturn, 0, 0, 0, [])])
def mk_m67 : Nat × List (List Bool × List mj_I) := (3, [mk_b67_0, mk_b67_1, mk_b67_2, mk_b67_3])
/-- NumbersCalled.startParts()V -/
def mk_b68_0 : List Bool × List mj_I := ([true, false], [(0, .iconst 0, 0, 0, 0, []), (1, .istore_n 1, 1, 0, 0, []), (2, .nop, 1, 0, 0, [])])
def mk_b68_1 : List Bool × List mj_I := ([true, true], [(2, .iload_n 1, 1, 0, 0, []), (3, .bipush 40, 0, 0, 0, []), (5, .if_icmp .gt (16), 2, 0, 0, []), (8, .aload_n 0, 0, 0, 0, []), (9, .getfield 66, 10, 7, 0, []), (12, .iload_n 1, 1, 0, 0, []), (13, .lconst 0, 0, 0, 0, []), (14, .lastore, 0, 0, 0, []), (15, .iinc 1 1, 1, 0, 0, []), (18, .goto (-16), 1, 0, 0, [])])
def mk_b68_2 : List Bool × List mj_I := ([true, false], [(21, .aload_n 0, 0, 0, 0, []), (22, .getfield 66, 10, 7, 0, []), (25, .iconst 0, 0, 0, 0, []), (26, .ldc2_w 373, 6, 0, 0, []), (29, .lastore, 0, 0, 0, []), (30, .return_, 0, 0, 0, [])])
def mk_m68 : Nat × List (List Bool × List mj_I) := (2, [mk_b68_0, mk_b68_1, mk_b68_2])
/-- NumbersCalled.giveOneMore(II)V -/
def mk_b69_0 : List Bool × List mj_I := ([true, true, true, false, false, false], [(0, .bipush 100, 0, 0, 0, []), (2, .iload_n 2, 2, 0, 0, []), (3, .isub, 0, 0, 0, []), (4, .i2l, 0, 0, 0, []), (5, .lstore_n 3, 3, 0, 0, []), (6, .iload_n 1, 1, 0, 0, []), (7, .istore 5, 5, 0, 0, []), (9, .nop, 1, 0, 0, [])])
def mk_b69_1 : List Bool × List mj_I := ([true, false, true, true, false, true], [(9, .iload 5, 5, 0, 0, []), (11, .iconst 1, 0, 0, 0, []), (12, .if_icmp .lt (46), 2, 0, 0, []), (15, .aload_n 0, 0, 0, 0, []), (16, .getfield 66, 10, 7, 0, []), (19, .iload 5, 5, 0, 0, []), (21, .aload_n 0, 0, 0, 0, []), (22, .getfield 66, 10, 7, 0, []), (25, .iload 5, 5, 0, 0, []), (27, .laload, 0, 0, 0, []), (28, .lload_n 3, 3, 0, 0, []), (29, .lmul, 0, 0, 0, []), (30, .ldc2_w 375, 7, 0, 0, []), (33, .ldiv, 0, 0, 0, []), (34, .aload_n 0, 0, 0, 0, []), (35, .getfield 66, 10, 7, 0, []), (38, .iload 5, 5, 0, 0, []), (40, .iconst 1, 0, 0, 0, []), (41, .isub, 0, 0, 0, []), (42, .laload, 0, 0, 0, []), (43, .iload_n 2, 2, 0, 0, []), (44, .i2l, 0, 0, 0, []), (45, .lmul, 0, 0, 0, []), (46, .ldc2_w 375, 7, 0, 0, []), (49, .ldiv, 0, 0, 0, []), (50, .ladd, 0, 0, 0, []), (51, .lastore, 0, 0, 0, []), (52, .iinc 5 (-1), 5, 0, 0, []), (55, .goto (-46), 1, 0, 0, [])])
def mk_b69_2 : List Bool × List mj_I := ([true, false, false, true, false, false], [(58, .aload_n 0, 0, 0, 0, []), (59, .getfield 66, 10, 7, 0, []), (62, .iconst 0, 0, 0, 0, []), (63, .aload_n 0, 0, 0, 0, []), (64, .getfield 66, 10, 7, 0, []), (67, .iconst 0, 0, 0, 0, []), (68, .laload, 0, 0, 0, []), (69, .lload_n 3, 3, 0, 0, []), (70, .lmul, 0, 0, 0, []), (71, .ldc2_w 375, 7, 0, 0, []), (74, .ldiv, 0, 0, 0, []), (75, .lastore, 0, 0, 0, []), (76, .return_, 0, 0, 0, [])])
def mk_m69 : Nat × List (List Bool × List mj_I) := (6, [mk_b69_0, mk_b69_1, mk_b69_2])
/-- NumbersCalled.partsAbove(I)J -/
def mk_b70_0 : List Bool × List mj_I := ([true, true, false, false, false], [(0, .lconst 0, 0, 0, 0, []), (1, .lstore_n 2, 2, 0, 0, []), (2, .iload_n 1, 1, 0, 0, []), (3, .iconst 1, 0, 0, 0, []), (4, .iadd, 0, 0, 0, []), (5, .istore 4, 4, 0, 0, []), (7, .nop, 1, 0, 0, [])])
def mk_b70_1 : List Bool × List mj_I := ([true, false, true, false, true], [(7, .iload 4, 4, 0, 0, []), (9, .bipush 40, 0, 0, 0, []), (11, .if_icmp .gt (19), 2, 0, 0, []), (14, .lload_n 2, 2, 0, 0, []), (15, .aload_n 0, 0, 0, 0, []), (16, .getfield 66, 10, 7, 0, []), (19, .iload 4, 4, 0, 0, []), (21, .laload, 0, 0, 0, []), (22, .ladd, 0, 0, 0, []), (23, .lstore_n 2, 2, 0, 0, []), (24, .iinc 4 1, 4, 0, 0, []), (27, .goto (-20), 1, 0, 0, [])])
def mk_b70_2 : List Bool × List mj_I := ([false, false, true, false, false], [(30, .lload_n 2, 2, 0, 0, []), (31, .lreturn, 0, 0, 0, [])])
def mk_m70 : Nat × List (List Bool × List mj_I) := (5, [mk_b70_0, mk_b70_1, mk_b70_2])
/-- NumbersCalled.commonDivisor(II)I -/
def mk_b71_0 : List Bool × List mj_I := ([true, true, false], [(0, .iload_n 1, 1, 0, 0, []), (1, .istore_n 2, 2, 0, 0, []), (2, .nop, 1, 0, 0, [])])
def mk_b71_1 : List Bool × List mj_I := ([true, true, true], [(2, .iload_n 2, 2, 0, 0, []), (3, .iconst 1, 0, 0, 0, []), (4, .if_icmp .le (23), 3, 0, 0, []), (7, .iload_n 0, 0, 0, 0, []), (8, .iload_n 2, 2, 0, 0, []), (9, .irem, 0, 0, 0, []), (10, .ifCond .ne (11), 2, 0, 0, []), (13, .iload_n 1, 1, 0, 0, []), (14, .iload_n 2, 2, 0, 0, []), (15, .irem, 0, 0, 0, []), (16, .ifCond .ne (5), 2, 0, 0, []), (19, .iload_n 2, 2, 0, 0, []), (20, .ireturn, 0, 0, 0, [])])
def mk_b71_2 : List Bool × List mj_I := ([true, true, true], [(21, .iinc 2 (-1), 2, 0, 0, []), (24, .goto (-22), 1, 0, 0, [])])
def mk_b71_3 : List Bool × List mj_I := ([false, false, false], [(27, .iconst 1, 0, 0, 0, []), (28, .ireturn, 0, 0, 0, [])])
def mk_m71 : Nat × List (List Bool × List mj_I) := (3, [mk_b71_0, mk_b71_1, mk_b71_2, mk_b71_3])
/-- NumbersCalledModel.in(III)Z -/
def mk_b72_0 : List Bool × List mj_I := ([true, true, true], [(0, .iload_n 0, 0, 0, 0, []), (1, .iload_n 1, 1, 0, 0, []), (2, .if_icmp .lt (12), 1, 0, 0, []), (5, .iload_n 0, 0, 0, 0, []), (6, .iload_n 2, 2, 0, 0, []), (7, .if_icmp .gt (7), 1, 0, 0, []), (10, .iconst 1, 0, 0, 0, []), (11, .goto (4), 2, 0, 0, [])])
def mk_b72_1 : List Bool × List mj_I := ([false, false, false], [(14, .iconst 0, 0, 0, 0, []), (15, .nop, 2, 0, 0, [])])
def mk_b72_2 : List Bool × List mj_I := ([false, false, false], [(15, .ireturn, 0, 0, 1, [])])
def mk_m72 : Nat × List (List Bool × List mj_I) := (3, [mk_b72_0, mk_b72_1, mk_b72_2])
/-- NumbersCalledModel.within(III)I -/
def mk_b73_0 : List Bool × List mj_I := ([true, true, true], [(0, .iload_n 0, 0, 0, 0, []), (1, .iload_n 1, 1, 0, 0, []), (2, .if_icmp .ge (7), 1, 0, 0, []), (5, .iload_n 1, 1, 0, 0, []), (6, .goto (13), 3, 0, 0, [])])
def mk_b73_1 : List Bool × List mj_I := ([true, false, true], [(9, .iload_n 0, 0, 0, 0, []), (10, .iload_n 2, 2, 0, 0, []), (11, .if_icmp .le (7), 2, 0, 0, []), (14, .iload_n 2, 2, 0, 0, []), (15, .goto (4), 3, 0, 0, [])])
def mk_b73_2 : List Bool × List mj_I := ([true, false, false], [(18, .iload_n 0, 0, 0, 0, []), (19, .nop, 3, 0, 0, [])])
def mk_b73_3 : List Bool × List mj_I := ([false, false, false], [(19, .ireturn, 0, 0, 0, [])])
def mk_m73 : Nat × List (List Bool × List mj_I) := (3, [mk_b73_0, mk_b73_1, mk_b73_2, mk_b73_3])
/-- NumbersCalledModel.isCounter(I)Z -/
def mk_b74_0 : List Bool × List mj_I := ([true, true], [(0, .iload_n 1, 1, 0, 0, []), (1, .iconst 0, 0, 0, 0, []), (2, .aload_n 0, 0, 0, 0, []), (3, .getfield 112, 0, 8, 0, []), (6, .iconst 1, 0, 0, 0, []), (7, .isub, 0, 0, 0, []), (8, .invokestatic 115, 72, 3, 1, []), (11, .ireturn, 0, 0, 1, [])])
def mk_m74 : Nat × List (List Bool × List mj_I) := (2, [mk_b74_0])
/-- NumbersCalledModel.isAsker(I)Z -/
def mk_b75_0 : List Bool × List mj_I := ([true, true], [(0, .iload_n 1, 1, 0, 0, []), (1, .iconst 0, 0, 0, 0, []), (2, .aload_n 0, 0, 0, 0, []), (3, .getfield 119, 5, 8, 0, []), (6, .iconst 1, 0, 0, 0, []), (7, .isub, 0, 0, 0, []), (8, .invokestatic 115, 72, 3, 1, []), (11, .ireturn, 0, 0, 1, [])])
def mk_m75 : Nat × List (List Bool × List mj_I) := (2, [mk_b75_0])
/-- NumbersCalledModel.isTold(II)Z -/
def mk_b76_0 : List Bool × List mj_I := ([true, true], [(0, .iload_n 0, 0, 0, 0, []), (1, .ifCond .ne (13), 1, 0, 0, []), (4, .iload_n 1, 1, 0, 0, []), (5, .iconst 0, 0, 0, 0, []), (6, .bipush 15, 0, 0, 0, []), (8, .invokestatic 115, 72, 3, 1, []), (11, .goto (38), 4, 0, 0, [])])
def mk_b76_1 : List Bool × List mj_I := ([true, true], [(14, .iload_n 0, 0, 0, 0, []), (15, .iconst 1, 0, 0, 0, []), (16, .if_icmp .ne (13), 2, 0, 0, []), (19, .iload_n 1, 1, 0, 0, []), (20, .iconst 0, 0, 0, 0, []), (21, .bipush 9, 0, 0, 0, []), (23, .invokestatic 115, 72, 3, 1, []), (26, .goto (23), 4, 0, 0, [])])
def mk_b76_2 : List Bool × List mj_I := ([true, true], [(29, .iload_n 0, 0, 0, 0, []), (30, .iconst 2, 0, 0, 0, []), (31, .if_icmp .ne (17), 3, 0, 0, []), (34, .iload_n 1, 1, 0, 0, []), (35, .iconst (-1), 0, 0, 0, []), (36, .bipush 119, 0, 0, 0, []), (38, .invokestatic 115, 72, 3, 1, []), (41, .ifCond .eq (7), 3, 0, 0, []), (44, .iconst 1, 0, 0, 0, []), (45, .goto (4), 4, 0, 0, [])])
def mk_b76_3 : List Bool × List mj_I := ([false, false], [(48, .iconst 0, 0, 0, 0, []), (49, .nop, 4, 0, 0, [])])
def mk_b76_4 : List Bool × List mj_I := ([false, false], [(49, .ireturn, 0, 0, 1, [])])
def mk_m76 : Nat × List (List Bool × List mj_I) := (2, [mk_b76_0, mk_b76_1, mk_b76_2, mk_b76_3, mk_b76_4])
/-- NumbersCalledModel.counter(II)I -/
def mk_b77_0 : List Bool × List mj_I := ([true, true, true], [(0, .iconst 0, 0, 0, 0, []), (1, .iload_n 1, 1, 0, 0, []), (2, .invokestatic 122, 76, 2, 1, []), (5, .ifCond .eq (11), 1, 0, 0, []), (8, .iconst 1, 0, 0, 0, []), (9, .iload_n 2, 2, 0, 0, []), (10, .invokestatic 122, 76, 2, 1, []), (13, .ifCond .ne (6), 2, 0, 0, []), (16, .nop, 1, 0, 0, [])])
def mk_b77_1 : List Bool × List mj_I := ([false, false, false], [(16, .bipush (-2), 0, 0, 0, []), (18, .ireturn, 0, 0, 0, [])])
def mk_b77_2 : List Bool × List mj_I := ([true, true, true], [(19, .aload_n 0, 0, 0, 0, []), (20, .getfield 112, 0, 8, 0, []), (23, .iconst 4, 0, 0, 0, []), (24, .if_icmp .ne (6), 3, 0, 0, []), (27, .bipush (-4), 0, 0, 0, []), (29, .ireturn, 0, 0, 0, [])])
def mk_b77_3 : List Bool × List mj_I := ([true, true, true], [(30, .aload_n 0, 0, 0, 0, []), (31, .getfield 7, 1, 8, 0, []), (34, .iconst 3, 0, 0, 0, []), (35, .aload_n 0, 0, 0, 0, []), (36, .getfield 112, 0, 8, 0, []), (39, .imul, 0, 0, 0, []), (40, .iload_n 1, 1, 0, 0, []), (41, .iastore, 0, 0, 0, []), (42, .aload_n 0, 0, 0, 0, []), (43, .getfield 7, 1, 8, 0, []), (46, .iconst 3, 0, 0, 0, []), (47, .aload_n 0, 0, 0, 0, []), (48, .getfield 112, 0, 8, 0, []), (51, .imul, 0, 0, 0, []), (52, .iconst 1, 0, 0, 0, []), (53, .iadd, 0, 0, 0, []), (54, .iload_n 2, 2, 0, 0, []), (55, .iastore, 0, 0, 0, []), (56, .aload_n 0, 0, 0, 0, []), (57, .getfield 7, 1, 8, 0, []), (60, .iconst 3, 0, 0, 0, []), (61, .aload_n 0, 0, 0, 0, []), (62, .getfield 112, 0, 8, 0, []), (65, .imul, 0, 0, 0, []), (66, .iconst 2, 0, 0, 0, []), (67, .iadd, 0, 0, 0, []), (68, .iconst (-1), 0, 0, 0, []), (69, .iastore, 0, 0, 0, []), (70, .aload_n 0, 0, 0, 0, []), (71, .dup, 0, 0, 0, []), (72, .getfield 112, 0, 8, 0, []), (75, .iconst 1, 0, 0, 0, []), (76, .iadd, 0, 0, 0, []), (77, .putfield 112, 0, 8, 0, []), (80, .aload_n 0, 0, 0, 0, []), (81, .getfield 112, 0, 8, 0, []), (84, .iconst 1, 0, 0, 0, []), (85, .isub, 0, 0, 0, []), (86, .ireturn, 0, 0, 0, [])])
def mk_m77 : Nat × List (List Bool × List mj_I) := (3, [mk_b77_0, mk_b77_1, mk_b77_2, mk_b77_3])
/-- NumbersCalledModel.change(III)I -/
def mk_b78_0 : List Bool × List mj_I := ([true, true, true, true, false], [(0, .aload_n 0, 0, 0, 0, []), (1, .iload_n 1, 1, 0, 0, []), (2, .invokevirtual 126, 74, 2, 1, []), (5, .ifCond .ne (6), 1, 0, 0, []), (8, .bipush (-5), 0, 0, 0, []), (10, .ireturn, 0, 0, 0, [])])
def mk_b78_1 : List Bool × List mj_I := ([true, true, true, true, false], [(11, .iload_n 2, 2, 0, 0, []), (12, .iload_n 3, 3, 0, 0, []), (13, .invokestatic 122, 76, 2, 1, []), (16, .ifCond .ne (6), 2, 0, 0, []), (19, .bipush (-7), 0, 0, 0, []), (21, .ireturn, 0, 0, 0, [])])
def mk_b78_2 : List Bool × List mj_I := ([true, true, true, true, false], [(22, .aload_n 0, 0, 0, 0, []), (23, .getfield 7, 1, 8, 0, []), (26, .iconst 3, 0, 0, 0, []), (27, .iload_n 1, 1, 0, 0, []), (28, .imul, 0, 0, 0, []), (29, .iload_n 2, 2, 0, 0, []), (30, .iadd, 0, 0, 0, []), (31, .iaload, 0, 0, 0, []), (32, .istore 4, 4, 0, 0, []), (34, .aload_n 0, 0, 0, 0, []), (35, .getfield 7, 1, 8, 0, []), (38, .iconst 3, 0, 0, 0, []), (39, .iload_n 1, 1, 0, 0, []), (40, .imul, 0, 0, 0, []), (41, .iload_n 2, 2, 0, 0, []), (42, .iadd, 0, 0, 0, []), (43, .iload_n 3, 3, 0, 0, []), (44, .iastore, 0, 0, 0, []), (45, .iload 4, 4, 0, 0, []), (47, .ireturn, 0, 0, 0, [])])
def mk_m78 : Nat × List (List Bool × List mj_I) := (5, [mk_b78_0, mk_b78_1, mk_b78_2])
/-- NumbersCalledModel.counterTold(II)I -/
def mk_b79_0 : List Bool × List mj_I := ([true, true, true], [(0, .aload_n 0, 0, 0, 0, []), (1, .iload_n 1, 1, 0, 0, []), (2, .invokevirtual 126, 74, 2, 1, []), (5, .ifCond .ne (8), 1, 0, 0, []), (8, .bipush (-5), 0, 0, 0, []), (10, .goto (27), 3, 0, 0, [])])
def mk_b79_1 : List Bool × List mj_I := ([true, true, true], [(13, .iload_n 2, 2, 0, 0, []), (14, .iconst 0, 0, 0, 0, []), (15, .iconst 2, 0, 0, 0, []), (16, .invokestatic 115, 72, 3, 1, []), (19, .ifCond .eq (16), 2, 0, 0, []), (22, .aload_n 0, 0, 0, 0, []), (23, .getfield 7, 1, 8, 0, []), (26, .iconst 3, 0, 0, 0, []), (27, .iload_n 1, 1, 0, 0, []), (28, .imul, 0, 0, 0, []), (29, .iload_n 2, 2, 0, 0, []), (30, .iadd, 0, 0, 0, []), (31, .iaload, 0, 0, 0, []), (32, .goto (5), 3, 0, 0, [])])
def mk_b79_2 : List Bool × List mj_I := ([false, false, false], [(35, .bipush (-7), 0, 0, 0, []), (37, .nop, 3, 0, 0, [])])
def mk_b79_3 : List Bool × List mj_I := ([false, false, false], [(37, .ireturn, 0, 0, 0, [])])
def mk_m79 : Nat × List (List Bool × List mj_I) := (3, [mk_b79_0, mk_b79_1, mk_b79_2, mk_b79_3])
/-- NumbersCalledModel.set(II)I -/
def mk_b80_0 : List Bool × List mj_I := ([true, true, true, false, false], [(0, .iload_n 1, 1, 0, 0, []), (1, .iconst 0, 0, 0, 0, []), (2, .iconst 2, 0, 0, 0, []), (3, .invokestatic 115, 72, 3, 1, []), (6, .ifCond .ne (5), 1, 0, 0, []), (9, .iconst (-1), 0, 0, 0, []), (10, .ireturn, 0, 0, 0, [])])
def mk_b80_1 : List Bool × List mj_I := ([true, true, true, false, false], [(11, .iload_n 1, 1, 0, 0, []), (12, .ifCond .ne (12), 2, 0, 0, []), (15, .iload_n 2, 2, 0, 0, []), (16, .iconst 0, 0, 0, 0, []), (17, .iconst 3, 0, 0, 0, []), (18, .invokestatic 115, 72, 3, 1, []), (21, .goto (25), 4, 0, 0, [])])
def mk_b80_2 : List Bool × List mj_I := ([true, true, true, false, false], [(24, .iload_n 1, 1, 0, 0, []), (25, .iconst 1, 0, 0, 0, []), (26, .if_icmp .ne (13), 3, 0, 0, []), (29, .iload_n 2, 2, 0, 0, []), (30, .iconst 1, 0, 0, 0, []), (31, .bipush 9, 0, 0, 0, []), (33, .invokestatic 115, 72, 3, 1, []), (36, .goto (10), 4, 0, 0, [])])
def mk_b80_3 : List Bool × List mj_I := ([true, true, true, false, false], [(39, .iload_n 2, 2, 0, 0, []), (40, .iconst 0, 0, 0, 0, []), (41, .bipush 120, 0, 0, 0, []), (43, .invokestatic 115, 72, 3, 1, []), (46, .nop, 4, 0, 0, [])])
def mk_b80_4 : List Bool × List mj_I := ([true, true, true, false, false], [(46, .istore_n 3, 3, 0, 0, []), (47, .iload_n 3, 3, 0, 0, []), (48, .ifCond .ne (6), 5, 0, 0, []), (51, .bipush (-2), 0, 0, 0, []), (53, .ireturn, 0, 0, 0, [])])
def mk_b80_5 : List Bool × List mj_I := ([true, true, true, false, false], [(54, .aload_n 0, 0, 0, 0, []), (55, .iload_n 1, 1, 0, 0, []), (56, .invokevirtual 130, 81, 2, 1, []), (59, .istore 4, 4, 0, 0, []), (61, .aload_n 0, 0, 0, 0, []), (62, .iload_n 1, 1, 0, 0, []), (63, .ifCond .ne (7), 6, 0, 0, []), (66, .iload_n 2, 2, 0, 0, []), (67, .goto (7), 7, 0, 0, [])])
def mk_b80_6 : List Bool × List mj_I := ([true, true, true, false, true], [(70, .aload_n 0, 0, 0, 0, []), (71, .getfield 134, 2, 8, 0, []), (74, .nop, 7, 0, 0, [])])
def mk_b80_7 : List Bool × List mj_I := ([true, true, true, false, true], [(74, .putfield 134, 2, 8, 0, []), (77, .aload_n 0, 0, 0, 0, []), (78, .iload_n 1, 1, 0, 0, []), (79, .iconst 1, 0, 0, 0, []), (80, .if_icmp .ne (7), 8, 0, 0, []), (83, .iload_n 2, 2, 0, 0, []), (84, .goto (7), 9, 0, 0, [])])
def mk_b80_8 : List Bool × List mj_I := ([true, true, true, false, true], [(87, .aload_n 0, 0, 0, 0, []), (88, .getfield 13, 3, 8, 0, []), (91, .nop, 9, 0, 0, [])])
def mk_b80_9 : List Bool × List mj_I := ([true, true, true, false, true], [(91, .putfield 13, 3, 8, 0, []), (94, .aload_n 0, 0, 0, 0, []), (95, .iload_n 1, 1, 0, 0, []), (96, .iconst 2, 0, 0, 0, []), (97, .if_icmp .ne (7), 10, 0, 0, []), (100, .iload_n 2, 2, 0, 0, []), (101, .goto (7), 11, 0, 0, [])])
def mk_b80_10 : List Bool × List mj_I := ([true, false, false, false, true], [(104, .aload_n 0, 0, 0, 0, []), (105, .getfield 17, 4, 8, 0, []), (108, .nop, 11, 0, 0, [])])
def mk_b80_11 : List Bool × List mj_I := ([false, false, false, false, true], [(108, .putfield 17, 4, 8, 0, []), (111, .iload 4, 4, 0, 0, []), (113, .ireturn, 0, 0, 0, [])])
def mk_m80 : Nat × List (List Bool × List mj_I) := (5, [mk_b80_0, mk_b80_1, mk_b80_2, mk_b80_3, mk_b80_4, mk_b80_5, mk_b80_6, mk_b80_7, mk_b80_8, mk_b80_9, mk_b80_10, mk_b80_11])
/-- NumbersCalledModel.count(I)I -/
def mk_b81_0 : List Bool × List mj_I := ([true, true], [(0, .iload_n 1, 1, 0, 0, []), (1, .tableswitch (87) 0 7 #[47, 52, 57, 62, 67, 72, 77, 82], 9, 0, 0, [(0, 1), (1, 2), (2, 3), (3, 4), (4, 5), (5, 6), (6, 7), (7, 8)])])
def mk_b81_1 : List Bool × List mj_I := ([true, false], [(48, .aload_n 0, 0, 0, 0, []), (49, .getfield 134, 2, 8, 0, []), (52, .ireturn, 0, 0, 0, [])])
def mk_b81_2 : List Bool × List mj_I := ([true, false], [(53, .aload_n 0, 0, 0, 0, []), (54, .getfield 13, 3, 8, 0, []), (57, .ireturn, 0, 0, 0, [])])
def mk_b81_3 : List Bool × List mj_I := ([true, false], [(58, .aload_n 0, 0, 0, 0, []), (59, .getfield 17, 4, 8, 0, []), (62, .ireturn, 0, 0, 0, [])])
def mk_b81_4 : List Bool × List mj_I := ([true, false], [(63, .aload_n 0, 0, 0, 0, []), (64, .getfield 112, 0, 8, 0, []), (67, .ireturn, 0, 0, 0, [])])
def mk_b81_5 : List Bool × List mj_I := ([true, false], [(68, .aload_n 0, 0, 0, 0, []), (69, .getfield 119, 5, 8, 0, []), (72, .ireturn, 0, 0, 0, [])])
def mk_b81_6 : List Bool × List mj_I := ([true, false], [(73, .aload_n 0, 0, 0, 0, []), (74, .getfield 137, 15, 8, 0, []), (77, .ireturn, 0, 0, 0, [])])
def mk_b81_7 : List Bool × List mj_I := ([true, false], [(78, .aload_n 0, 0, 0, 0, []), (79, .getfield 140, 16, 8, 0, []), (82, .ireturn, 0, 0, 0, [])])
def mk_b81_8 : List Bool × List mj_I := ([true, false], [(83, .aload_n 0, 0, 0, 0, []), (84, .getfield 105, 12, 8, 0, []), (87, .ireturn, 0, 0, 0, [])])
def mk_b81_9 : List Bool × List mj_I := ([false, false], [(88, .bipush (-2), 0, 0, 0, []), (90, .ireturn, 0, 0, 0, [])])
def mk_m81 : Nat × List (List Bool × List mj_I) := (2, [mk_b81_0, mk_b81_1, mk_b81_2, mk_b81_3, mk_b81_4, mk_b81_5, mk_b81_6, mk_b81_7, mk_b81_8, mk_b81_9])
/-- NumbersCalledModel.isByte(I)Z -/
def mk_b82_0 : List Bool × List mj_I := ([true], [(0, .iload_n 0, 0, 0, 0, []), (1, .iconst 0, 0, 0, 0, []), (2, .sipush 255, 0, 0, 0, []), (5, .invokestatic 115, 72, 3, 1, []), (8, .ireturn, 0, 0, 1, [])])
def mk_m82 : Nat × List (List Bool × List mj_I) := (1, [mk_b82_0])
/-- NumbersCalledModel.feed(IIIIII)I -/
def mk_b83_0 : List Bool × List mj_I := ([true, true, true, true, true, true, true, false], [(0, .iload_n 1, 1, 0, 0, []), (1, .iconst 1, 0, 0, 0, []), (2, .iconst 5, 0, 0, 0, []), (3, .invokestatic 115, 72, 3, 1, []), (6, .ifCond .eq (41), 1, 0, 0, []), (9, .iload_n 2, 2, 0, 0, []), (10, .invokestatic 143, 82, 1, 1, []), (13, .ifCond .eq (34), 1, 0, 0, []), (16, .iload_n 3, 3, 0, 0, []), (17, .invokestatic 143, 82, 1, 1, []), (20, .ifCond .eq (27), 1, 0, 0, []), (23, .iload 4, 4, 0, 0, []), (25, .invokestatic 143, 82, 1, 1, []), (28, .ifCond .eq (19), 1, 0, 0, []), (31, .iload 5, 5, 0, 0, []), (33, .invokestatic 143, 82, 1, 1, []), (36, .ifCond .eq (11), 1, 0, 0, []), (39, .iload 6, 6, 0, 0, []), (41, .invokestatic 143, 82, 1, 1, []), (44, .ifCond .ne (6), 2, 0, 0, []), (47, .nop, 1, 0, 0, [])])
def mk_b83_1 : List Bool × List mj_I := ([false, false, false, false, false, false, false, false], [(47, .bipush (-2), 0, 0, 0, []), (49, .ireturn, 0, 0, 0, [])])
def mk_b83_2 : List Bool × List mj_I := ([true, true, true, true, true, true, true, false], [(50, .aload_n 0, 0, 0, 0, []), (51, .getfield 105, 12, 8, 0, []), (54, .iload_n 1, 1, 0, 0, []), (55, .iadd, 0, 0, 0, []), (56, .sipush 160, 0, 0, 0, []), (59, .if_icmp .le (6), 3, 0, 0, []), (62, .bipush (-4), 0, 0, 0, []), (64, .ireturn, 0, 0, 0, [])])
def mk_b83_3 : List Bool × List mj_I := ([true, true, true, true, true, true, true, false], [(65, .iconst 0, 0, 0, 0, []), (66, .istore 7, 7, 0, 0, []), (68, .nop, 4, 0, 0, [])])
def mk_b83_4 : List Bool × List mj_I := ([true, true, true, true, true, true, true, true], [(68, .iload 7, 7, 0, 0, []), (70, .iload_n 1, 1, 0, 0, []), (71, .if_icmp .ge (71), 10, 0, 0, []), (74, .aload_n 0, 0, 0, 0, []), (75, .getfield 35, 11, 8, 0, []), (78, .aload_n 0, 0, 0, 0, []), (79, .getfield 105, 12, 8, 0, []), (82, .iload 7, 7, 0, 0, []), (84, .ifCond .ne (7), 5, 0, 0, []), (87, .iload_n 2, 2, 0, 0, []), (88, .goto (37), 9, 0, 0, [])])
def mk_b83_5 : List Bool × List mj_I := ([true, true, true, true, true, true, true, true], [(91, .iload 7, 7, 0, 0, []), (93, .iconst 1, 0, 0, 0, []), (94, .if_icmp .ne (7), 6, 0, 0, []), (97, .iload_n 3, 3, 0, 0, []), (98, .goto (27), 9, 0, 0, [])])
def mk_b83_6 : List Bool × List mj_I := ([true, true, true, true, true, true, true, true], [(101, .iload 7, 7, 0, 0, []), (103, .iconst 2, 0, 0, 0, []), (104, .if_icmp .ne (8), 7, 0, 0, []), (107, .iload 4, 4, 0, 0, []), (109, .goto (16), 9, 0, 0, [])])
def mk_b83_7 : List Bool × List mj_I := ([true, true, true, true, true, true, true, true], [(112, .iload 7, 7, 0, 0, []), (114, .iconst 3, 0, 0, 0, []), (115, .if_icmp .ne (8), 8, 0, 0, []), (118, .iload 5, 5, 0, 0, []), (120, .goto (5), 9, 0, 0, [])])
def mk_b83_8 : List Bool × List mj_I := ([true, true, true, true, true, true, true, true], [(123, .iload 6, 6, 0, 0, []), (125, .nop, 9, 0, 0, [])])
def mk_b83_9 : List Bool × List mj_I := ([true, true, true, true, true, true, true, true], [(125, .iastore, 0, 0, 0, []), (126, .aload_n 0, 0, 0, 0, []), (127, .dup, 0, 0, 0, []), (128, .getfield 105, 12, 8, 0, []), (131, .iconst 1, 0, 0, 0, []), (132, .iadd, 0, 0, 0, []), (133, .putfield 105, 12, 8, 0, []), (136, .iinc 7 1, 7, 0, 0, []), (139, .goto (-71), 4, 0, 0, [])])
def mk_b83_10 : List Bool × List mj_I := ([true, false, false, false, false, false, false, false], [(142, .aload_n 0, 0, 0, 0, []), (143, .getfield 105, 12, 8, 0, []), (146, .ireturn, 0, 0, 0, [])])
def mk_m83 : Nat × List (List Bool × List mj_I) := (8, [mk_b83_0, mk_b83_1, mk_b83_2, mk_b83_3, mk_b83_4, mk_b83_5, mk_b83_6, mk_b83_7, mk_b83_8, mk_b83_9, mk_b83_10])
/-- NumbersCalledModel.wordFrom(II)I -/
def mk_b84_0 : List Bool × List mj_I := ([true, true, true, false, false, false], [(0, .iconst 0, 0, 0, 0, []), (1, .istore_n 3, 3, 0, 0, []), (2, .nop, 1, 0, 0, [])])
def mk_b84_1 : List Bool × List mj_I := ([true, true, true, true, false, false], [(2, .iload_n 3, 3, 0, 0, []), (3, .bipush 12, 0, 0, 0, []), (5, .if_icmp .ge (96), 11, 0, 0, []), (8, .iload_n 2, 2, 0, 0, []), (9, .iload_n 1, 1, 0, 0, []), (10, .isub, 0, 0, 0, []), (11, .bipush 8, 0, 0, 0, []), (13, .if_icmp .gt (7), 2, 0, 0, []), (16, .iconst 1, 0, 0, 0, []), (17, .goto (4), 3, 0, 0, [])])
def mk_b84_2 : List Bool × List mj_I := ([true, true, true, true, false, false], [(20, .iconst 0, 0, 0, 0, []), (21, .nop, 3, 0, 0, [])])
def mk_b84_3 : List Bool × List mj_I := ([true, true, true, true, false, false], [(21, .istore 4, 4, 0, 0, []), (23, .iconst 0, 0, 0, 0, []), (24, .istore 5, 5, 0, 0, []), (26, .nop, 4, 0, 0, [])])
def mk_b84_4 : List Bool × List mj_I := ([true, true, true, true, true, true], [(26, .iload 5, 5, 0, 0, []), (28, .bipush 8, 0, 0, 0, []), (30, .if_icmp .ge (58), 9, 0, 0, []), (33, .iload 4, 4, 0, 0, []), (35, .ifCond .eq (53), 9, 0, 0, []), (38, .aload_n 0, 0, 0, 0, []), (39, .getfield 62, 34, 8, 0, []), (42, .bipush 8, 0, 0, 0, []), (44, .iload_n 3, 3, 0, 0, []), (45, .imul, 0, 0, 0, []), (46, .iload 5, 5, 0, 0, []), (48, .iadd, 0, 0, 0, []), (49, .iaload, 0, 0, 0, []), (50, .iload_n 1, 1, 0, 0, []), (51, .iload 5, 5, 0, 0, []), (53, .iadd, 0, 0, 0, []), (54, .iload_n 2, 2, 0, 0, []), (55, .if_icmp .ge (15), 5, 0, 0, []), (58, .aload_n 0, 0, 0, 0, []), (59, .getfield 35, 11, 8, 0, []), (62, .iload_n 1, 1, 0, 0, []), (63, .iload 5, 5, 0, 0, []), (65, .iadd, 0, 0, 0, []), (66, .iaload, 0, 0, 0, []), (67, .goto (5), 6, 0, 0, [])])
def mk_b84_5 : List Bool × List mj_I := ([true, true, true, true, false, true], [(70, .bipush 32, 0, 0, 0, []), (72, .nop, 6, 0, 0, [])])
def mk_b84_6 : List Bool × List mj_I := ([true, true, true, true, false, true], [(72, .if_icmp .ne (7), 7, 0, 0, []), (75, .iconst 1, 0, 0, 0, []), (76, .goto (4), 8, 0, 0, [])])
def mk_b84_7 : List Bool × List mj_I := ([true, true, true, true, false, true], [(79, .iconst 0, 0, 0, 0, []), (80, .nop, 8, 0, 0, [])])
def mk_b84_8 : List Bool × List mj_I := ([true, true, true, true, false, true], [(80, .istore 4, 4, 0, 0, []), (82, .iinc 5 1, 5, 0, 0, []), (85, .goto (-59), 4, 0, 0, [])])
def mk_b84_9 : List Bool × List mj_I := ([true, true, true, true, true, false], [(88, .iload 4, 4, 0, 0, []), (90, .ifCond .eq (5), 10, 0, 0, []), (93, .iload_n 3, 3, 0, 0, []), (94, .ireturn, 0, 0, 0, [])])
def mk_b84_10 : List Bool × List mj_I := ([true, true, true, true, false, false], [(95, .iinc 3 1, 3, 0, 0, []), (98, .goto (-96), 1, 0, 0, [])])
def mk_b84_11 : List Bool × List mj_I := ([false, false, false, false, false, false], [(101, .bipush 12, 0, 0, 0, []), (103, .ireturn, 0, 0, 0, [])])
def mk_m84 : Nat × List (List Bool × List mj_I) := (6, [mk_b84_0, mk_b84_1, mk_b84_2, mk_b84_3, mk_b84_4, mk_b84_5, mk_b84_6, mk_b84_7, mk_b84_8, mk_b84_9, mk_b84_10, mk_b84_11])
/-- NumbersCalledModel.next()V -/
def mk_b85_0 : List Bool × List mj_I := ([true, false, false], [(0, .aload_n 0, 0, 0, 0, []), (1, .getfield 146, 30, 8, 0, []), (4, .aload_n 0, 0, 0, 0, []), (5, .getfield 105, 12, 8, 0, []), (8, .if_icmp .ge (44), 2, 0, 0, []), (11, .aload_n 0, 0, 0, 0, []), (12, .getfield 35, 11, 8, 0, []), (15, .aload_n 0, 0, 0, 0, []), (16, .getfield 146, 30, 8, 0, []), (19, .iaload, 0, 0, 0, []), (20, .bipush 32, 0, 0, 0, []), (22, .if_icmp .eq (17), 1, 0, 0, []), (25, .aload_n 0, 0, 0, 0, []), (26, .getfield 35, 11, 8, 0, []), (29, .aload_n 0, 0, 0, 0, []), (30, .getfield 146, 30, 8, 0, []), (33, .iaload, 0, 0, 0, []), (34, .bipush 10, 0, 0, 0, []), (36, .if_icmp .ne (16), 2, 0, 0, []), (39, .nop, 1, 0, 0, [])])
def mk_b85_1 : List Bool × List mj_I := ([true, false, false], [(39, .aload_n 0, 0, 0, 0, []), (40, .dup, 0, 0, 0, []), (41, .getfield 146, 30, 8, 0, []), (44, .iconst 1, 0, 0, 0, []), (45, .iadd, 0, 0, 0, []), (46, .putfield 146, 30, 8, 0, []), (49, .goto (-49), 0, 0, 0, [])])
def mk_b85_2 : List Bool × List mj_I := ([true, false, false], [(52, .aload_n 0, 0, 0, 0, []), (53, .aload_n 0, 0, 0, 0, []), (54, .getfield 146, 30, 8, 0, []), (57, .putfield 149, 31, 8, 0, []), (60, .aload_n 0, 0, 0, 0, []), (61, .iconst 0, 0, 0, 0, []), (62, .putfield 152, 32, 8, 0, []), (65, .aload_n 0, 0, 0, 0, []), (66, .iconst 0, 0, 0, 0, []), (67, .putfield 155, 33, 8, 0, []), (70, .aload_n 0, 0, 0, 0, []), (71, .getfield 146, 30, 8, 0, []), (74, .aload_n 0, 0, 0, 0, []), (75, .getfield 105, 12, 8, 0, []), (78, .if_icmp .ne (4), 3, 0, 0, []), (81, .return_, 0, 0, 0, [])])
def mk_b85_3 : List Bool × List mj_I := ([true, false, false], [(82, .aload_n 0, 0, 0, 0, []), (83, .getfield 35, 11, 8, 0, []), (86, .aload_n 0, 0, 0, 0, []), (87, .getfield 146, 30, 8, 0, []), (90, .iaload, 0, 0, 0, []), (91, .istore_n 1, 1, 0, 0, []), (92, .iload_n 1, 1, 0, 0, []), (93, .bipush 97, 0, 0, 0, []), (95, .bipush 122, 0, 0, 0, []), (97, .invokestatic 115, 72, 3, 1, []), (100, .ifCond .eq (117), 12, 0, 0, []), (103, .nop, 4, 0, 0, [])])
def mk_b85_4 : List Bool × List mj_I := ([true, false, false], [(103, .aload_n 0, 0, 0, 0, []), (104, .getfield 146, 30, 8, 0, []), (107, .aload_n 0, 0, 0, 0, []), (108, .getfield 105, 12, 8, 0, []), (111, .if_icmp .ge (35), 5, 0, 0, []), (114, .aload_n 0, 0, 0, 0, []), (115, .getfield 35, 11, 8, 0, []), (118, .aload_n 0, 0, 0, 0, []), (119, .getfield 146, 30, 8, 0, []), (122, .iaload, 0, 0, 0, []), (123, .bipush 97, 0, 0, 0, []), (125, .bipush 122, 0, 0, 0, []), (127, .invokestatic 115, 72, 3, 1, []), (130, .ifCond .eq (16), 5, 0, 0, []), (133, .aload_n 0, 0, 0, 0, []), (134, .dup, 0, 0, 0, []), (135, .getfield 146, 30, 8, 0, []), (138, .iconst 1, 0, 0, 0, []), (139, .iadd, 0, 0, 0, []), (140, .putfield 146, 30, 8, 0, []), (143, .goto (-40), 4, 0, 0, [])])
def mk_b85_5 : List Bool × List mj_I := ([true, false, false], [(146, .aload_n 0, 0, 0, 0, []), (147, .aload_n 0, 0, 0, 0, []), (148, .getfield 149, 31, 8, 0, []), (151, .aload_n 0, 0, 0, 0, []), (152, .getfield 146, 30, 8, 0, []), (155, .invokevirtual 158, 84, 3, 1, []), (158, .istore_n 2, 2, 0, 0, []), (159, .aload_n 0, 0, 0, 0, []), (160, .iload_n 2, 2, 0, 0, []), (161, .iconst 3, 0, 0, 0, []), (162, .if_icmp .ge (7), 6, 0, 0, []), (165, .iconst 3, 0, 0, 0, []), (166, .goto (29), 9, 0, 0, [])])
def mk_b85_6 : List Bool × List mj_I := ([true, false, true], [(169, .iload_n 2, 2, 0, 0, []), (170, .bipush 9, 0, 0, 0, []), (172, .if_icmp .ge (7), 7, 0, 0, []), (175, .iconst 2, 0, 0, 0, []), (176, .goto (19), 9, 0, 0, [])])
def mk_b85_7 : List Bool × List mj_I := ([true, false, true], [(179, .iload_n 2, 2, 0, 0, []), (180, .bipush 12, 0, 0, 0, []), (182, .if_icmp .ne (7), 8, 0, 0, []), (185, .iconst (-1), 0, 0, 0, []), (186, .goto (9), 9, 0, 0, [])])
def mk_b85_8 : List Bool × List mj_I := ([true, false, true], [(189, .iconst 4, 0, 0, 0, []), (190, .iload_n 2, 2, 0, 0, []), (191, .iadd, 0, 0, 0, []), (192, .bipush 9, 0, 0, 0, []), (194, .isub, 0, 0, 0, []), (195, .nop, 9, 0, 0, [])])
def mk_b85_9 : List Bool × List mj_I := ([true, false, true], [(195, .putfield 152, 32, 8, 0, []), (198, .aload_n 0, 0, 0, 0, []), (199, .iload_n 2, 2, 0, 0, []), (200, .iconst 3, 0, 0, 0, []), (201, .if_icmp .ge (7), 10, 0, 0, []), (204, .iload_n 2, 2, 0, 0, []), (205, .goto (6), 11, 0, 0, [])])
def mk_b85_10 : List Bool × List mj_I := ([false, false, true], [(208, .iload_n 2, 2, 0, 0, []), (209, .iconst 3, 0, 0, 0, []), (210, .isub, 0, 0, 0, []), (211, .nop, 11, 0, 0, [])])
def mk_b85_11 : List Bool × List mj_I := ([false, false, false], [(211, .putfield 155, 33, 8, 0, []), (214, .goto (189), 25, 0, 0, [])])
def mk_b85_12 : List Bool × List mj_I := ([true, true, false], [(217, .iload_n 1, 1, 0, 0, []), (218, .bipush 48, 0, 0, 0, []), (220, .bipush 57, 0, 0, 0, []), (222, .invokestatic 115, 72, 3, 1, []), (225, .ifCond .eq (101), 19, 0, 0, []), (228, .iconst 0, 0, 0, 0, []), (229, .istore_n 2, 2, 0, 0, []), (230, .nop, 13, 0, 0, [])])
def mk_b85_13 : List Bool × List mj_I := ([true, false, true], [(230, .aload_n 0, 0, 0, 0, []), (231, .getfield 146, 30, 8, 0, []), (234, .aload_n 0, 0, 0, 0, []), (235, .getfield 105, 12, 8, 0, []), (238, .if_icmp .ge (71), 16, 0, 0, []), (241, .aload_n 0, 0, 0, 0, []), (242, .getfield 35, 11, 8, 0, []), (245, .aload_n 0, 0, 0, 0, []), (246, .getfield 146, 30, 8, 0, []), (249, .iaload, 0, 0, 0, []), (250, .bipush 48, 0, 0, 0, []), (252, .bipush 57, 0, 0, 0, []), (254, .invokestatic 115, 72, 3, 1, []), (257, .ifCond .eq (52), 16, 0, 0, []), (260, .aload_n 0, 0, 0, 0, []), (261, .iload_n 2, 2, 0, 0, []), (262, .iconst 4, 0, 0, 0, []), (263, .if_icmp .ge (26), 14, 0, 0, []), (266, .bipush 10, 0, 0, 0, []), (268, .aload_n 0, 0, 0, 0, []), (269, .getfield 155, 33, 8, 0, []), (272, .imul, 0, 0, 0, []), (273, .aload_n 0, 0, 0, 0, []), (274, .getfield 35, 11, 8, 0, []), (277, .aload_n 0, 0, 0, 0, []), (278, .getfield 146, 30, 8, 0, []), (281, .iaload, 0, 0, 0, []), (282, .iadd, 0, 0, 0, []), (283, .bipush 48, 0, 0, 0, []), (285, .isub, 0, 0, 0, []), (286, .goto (4), 15, 0, 0, [])])
def mk_b85_14 : List Bool × List mj_I := ([true, false, true], [(289, .iconst 0, 0, 0, 0, []), (290, .nop, 15, 0, 0, [])])
def mk_b85_15 : List Bool × List mj_I := ([true, false, true], [(290, .putfield 155, 33, 8, 0, []), (293, .iinc 2 1, 2, 0, 0, []), (296, .aload_n 0, 0, 0, 0, []), (297, .dup, 0, 0, 0, []), (298, .getfield 146, 30, 8, 0, []), (301, .iconst 1, 0, 0, 0, []), (302, .iadd, 0, 0, 0, []), (303, .putfield 146, 30, 8, 0, []), (306, .goto (-76), 13, 0, 0, [])])
def mk_b85_16 : List Bool × List mj_I := ([true, false, true], [(309, .aload_n 0, 0, 0, 0, []), (310, .iload_n 2, 2, 0, 0, []), (311, .iconst 4, 0, 0, 0, []), (312, .if_icmp .le (7), 17, 0, 0, []), (315, .iconst (-1), 0, 0, 0, []), (316, .goto (4), 18, 0, 0, [])])
def mk_b85_17 : List Bool × List mj_I := ([false, false, false], [(319, .iconst 1, 0, 0, 0, []), (320, .nop, 18, 0, 0, [])])
def mk_b85_18 : List Bool × List mj_I := ([false, false, false], [(320, .putfield 152, 32, 8, 0, []), (323, .goto (80), 25, 0, 0, [])])
def mk_b85_19 : List Bool × List mj_I := ([true, true, false], [(326, .iload_n 1, 1, 0, 0, []), (327, .bipush 40, 0, 0, 0, []), (329, .if_icmp .eq (45), 20, 0, 0, []), (332, .iload_n 1, 1, 0, 0, []), (333, .bipush 41, 0, 0, 0, []), (335, .if_icmp .eq (39), 20, 0, 0, []), (338, .iload_n 1, 1, 0, 0, []), (339, .bipush 59, 0, 0, 0, []), (341, .if_icmp .eq (33), 20, 0, 0, []), (344, .iload_n 1, 1, 0, 0, []), (345, .bipush 43, 0, 0, 0, []), (347, .if_icmp .eq (27), 20, 0, 0, []), (350, .iload_n 1, 1, 0, 0, []), (351, .bipush 45, 0, 0, 0, []), (353, .if_icmp .eq (21), 20, 0, 0, []), (356, .iload_n 1, 1, 0, 0, []), (357, .bipush 42, 0, 0, 0, []), (359, .if_icmp .eq (15), 20, 0, 0, []), (362, .iload_n 1, 1, 0, 0, []), (363, .bipush 60, 0, 0, 0, []), (365, .if_icmp .eq (9), 20, 0, 0, []), (368, .iload_n 1, 1, 0, 0, []), (369, .bipush 61, 0, 0, 0, []), (371, .if_icmp .ne (7), 21, 0, 0, []), (374, .nop, 20, 0, 0, [])])
def mk_b85_20 : List Bool × List mj_I := ([true, true, false], [(374, .iconst 1, 0, 0, 0, []), (375, .goto (4), 22, 0, 0, [])])
def mk_b85_21 : List Bool × List mj_I := ([true, true, false], [(378, .iconst 0, 0, 0, 0, []), (379, .nop, 22, 0, 0, [])])
def mk_b85_22 : List Bool × List mj_I := ([true, true, false], [(379, .istore_n 2, 2, 0, 0, []), (380, .aload_n 0, 0, 0, 0, []), (381, .iload_n 2, 2, 0, 0, []), (382, .ifCond .eq (7), 23, 0, 0, []), (385, .iload_n 1, 1, 0, 0, []), (386, .goto (4), 24, 0, 0, [])])
def mk_b85_23 : List Bool × List mj_I := ([true, false, false], [(389, .iconst (-1), 0, 0, 0, []), (390, .nop, 24, 0, 0, [])])
def mk_b85_24 : List Bool × List mj_I := ([true, false, false], [(390, .putfield 152, 32, 8, 0, []), (393, .aload_n 0, 0, 0, 0, []), (394, .dup, 0, 0, 0, []), (395, .getfield 146, 30, 8, 0, []), (398, .iconst 1, 0, 0, 0, []), (399, .iadd, 0, 0, 0, []), (400, .putfield 146, 30, 8, 0, []), (403, .nop, 25, 0, 0, [])])
def mk_b85_25 : List Bool × List mj_I := ([false, false, false], [(403, .return_, 0, 0, 0, [])])
def mk_m85 : Nat × List (List Bool × List mj_I) := (3, [mk_b85_0, mk_b85_1, mk_b85_2, mk_b85_3, mk_b85_4, mk_b85_5, mk_b85_6, mk_b85_7, mk_b85_8, mk_b85_9, mk_b85_10, mk_b85_11, mk_b85_12, mk_b85_13, mk_b85_14, mk_b85_15, mk_b85_16, mk_b85_17, mk_b85_18, mk_b85_19, mk_b85_20, mk_b85_21, mk_b85_22, mk_b85_23, mk_b85_24, mk_b85_25])
/-- NumbersCalledModel.rank(I)I -/
def mk_b86_0 : List Bool × List mj_I := ([true], [(0, .iload_n 0, 0, 0, 0, []), (1, .ifCond .ne (7), 1, 0, 0, []), (4, .iconst 0, 0, 0, 0, []), (5, .goto (66), 8, 0, 0, [])])
def mk_b86_1 : List Bool × List mj_I := ([true], [(8, .iload_n 0, 0, 0, 0, []), (9, .bipush 11, 0, 0, 0, []), (11, .if_icmp .ne (7), 2, 0, 0, []), (14, .iconst 1, 0, 0, 0, []), (15, .goto (56), 8, 0, 0, [])])
def mk_b86_2 : List Bool × List mj_I := ([true], [(18, .iload_n 0, 0, 0, 0, []), (19, .bipush 12, 0, 0, 0, []), (21, .if_icmp .ne (7), 3, 0, 0, []), (24, .iconst 2, 0, 0, 0, []), (25, .goto (46), 8, 0, 0, [])])
def mk_b86_3 : List Bool × List mj_I := ([true], [(28, .iload_n 0, 0, 0, 0, []), (29, .bipush 13, 0, 0, 0, []), (31, .if_icmp .ne (7), 4, 0, 0, []), (34, .iconst 3, 0, 0, 0, []), (35, .goto (36), 8, 0, 0, [])])
def mk_b86_4 : List Bool × List mj_I := ([true], [(38, .iload_n 0, 0, 0, 0, []), (39, .bipush 15, 0, 0, 0, []), (41, .if_icmp .gt (7), 5, 0, 0, []), (44, .iconst 4, 0, 0, 0, []), (45, .goto (26), 8, 0, 0, [])])
def mk_b86_5 : List Bool × List mj_I := ([true], [(48, .iload_n 0, 0, 0, 0, []), (49, .bipush 17, 0, 0, 0, []), (51, .if_icmp .gt (7), 6, 0, 0, []), (54, .iconst 5, 0, 0, 0, []), (55, .goto (16), 8, 0, 0, [])])
def mk_b86_6 : List Bool × List mj_I := ([true], [(58, .iload_n 0, 0, 0, 0, []), (59, .bipush 18, 0, 0, 0, []), (61, .if_icmp .ne (8), 7, 0, 0, []), (64, .bipush 6, 0, 0, 0, []), (66, .goto (5), 8, 0, 0, [])])
def mk_b86_7 : List Bool × List mj_I := ([false], [(69, .bipush 7, 0, 0, 0, []), (71, .nop, 8, 0, 0, [])])
def mk_b86_8 : List Bool × List mj_I := ([false], [(71, .ireturn, 0, 0, 0, [])])
def mk_m86 : Nat × List (List Bool × List mj_I) := (1, [mk_b86_0, mk_b86_1, mk_b86_2, mk_b86_3, mk_b86_4, mk_b86_5, mk_b86_6, mk_b86_7, mk_b86_8])
/-- NumbersCalledModel.puts(I)V -/
def mk_b87_0 : List Bool × List mj_I := ([true, true], [(0, .aload_n 0, 0, 0, 0, []), (1, .getfield 38, 13, 8, 0, []), (4, .sipush 200, 0, 0, 0, []), (7, .aload_n 0, 0, 0, 0, []), (8, .getfield 137, 15, 8, 0, []), (11, .imul, 0, 0, 0, []), (12, .aload_n 0, 0, 0, 0, []), (13, .getfield 162, 38, 8, 0, []), (16, .iadd, 0, 0, 0, []), (17, .iload_n 1, 1, 0, 0, []), (18, .iastore, 0, 0, 0, []), (19, .aload_n 0, 0, 0, 0, []), (20, .dup, 0, 0, 0, []), (21, .getfield 162, 38, 8, 0, []), (24, .iconst 1, 0, 0, 0, []), (25, .iadd, 0, 0, 0, []), (26, .putfield 162, 38, 8, 0, []), (29, .return_, 0, 0, 0, [])])
def mk_m87 : Nat × List (List Bool × List mj_I) := (2, [mk_b87_0])
/-- NumbersCalledModel.unwinds(I)V -/
def mk_b88_0 : List Bool × List mj_I := ([true, true, false], [(0, .aload_n 0, 0, 0, 0, []), (1, .getfield 165, 36, 8, 0, []), (4, .ifCond .le (75), 4, 0, 0, []), (7, .aload_n 0, 0, 0, 0, []), (8, .getfield 65, 35, 8, 0, []), (11, .aload_n 0, 0, 0, 0, []), (12, .getfield 165, 36, 8, 0, []), (15, .iconst 1, 0, 0, 0, []), (16, .isub, 0, 0, 0, []), (17, .iaload, 0, 0, 0, []), (18, .invokestatic 168, 86, 1, 1, []), (21, .iload_n 1, 1, 0, 0, []), (22, .if_icmp .lt (57), 4, 0, 0, []), (25, .aload_n 0, 0, 0, 0, []), (26, .dup, 0, 0, 0, []), (27, .getfield 165, 36, 8, 0, []), (30, .iconst 1, 0, 0, 0, []), (31, .isub, 0, 0, 0, []), (32, .putfield 165, 36, 8, 0, []), (35, .aload_n 0, 0, 0, 0, []), (36, .getfield 65, 35, 8, 0, []), (39, .aload_n 0, 0, 0, 0, []), (40, .getfield 165, 36, 8, 0, []), (43, .iaload, 0, 0, 0, []), (44, .istore_n 2, 2, 0, 0, []), (45, .aload_n 0, 0, 0, 0, []), (46, .dup, 0, 0, 0, []), (47, .getfield 171, 37, 8, 0, []), (50, .iload_n 2, 2, 0, 0, []), (51, .bipush 13, 0, 0, 0, []), (53, .if_icmp .eq (9), 1, 0, 0, []), (56, .iload_n 2, 2, 0, 0, []), (57, .bipush 19, 0, 0, 0, []), (59, .if_icmp .ne (7), 2, 0, 0, []), (62, .nop, 1, 0, 0, [])])
def mk_b88_1 : List Bool × List mj_I := ([true, true, true], [(62, .iconst 1, 0, 0, 0, []), (63, .goto (4), 3, 0, 0, [])])
def mk_b88_2 : List Bool × List mj_I := ([true, true, true], [(66, .iconst 0, 0, 0, 0, []), (67, .nop, 3, 0, 0, [])])
def mk_b88_3 : List Bool × List mj_I := ([true, true, true], [(67, .isub, 0, 0, 0, []), (68, .putfield 171, 37, 8, 0, []), (71, .aload_n 0, 0, 0, 0, []), (72, .iload_n 2, 2, 0, 0, []), (73, .invokevirtual 174, 87, 2, 0, []), (76, .goto (-76), 0, 0, 0, [])])
def mk_b88_4 : List Bool × List mj_I := ([false, false, false], [(79, .return_, 0, 0, 0, [])])
def mk_m88 : Nat × List (List Bool × List mj_I) := (3, [mk_b88_0, mk_b88_1, mk_b88_2, mk_b88_3, mk_b88_4])
/-- NumbersCalledModel.holds(I)V -/
def mk_b89_0 : List Bool × List mj_I := ([true, true], [(0, .aload_n 0, 0, 0, 0, []), (1, .getfield 65, 35, 8, 0, []), (4, .aload_n 0, 0, 0, 0, []), (5, .getfield 165, 36, 8, 0, []), (8, .iload_n 1, 1, 0, 0, []), (9, .iastore, 0, 0, 0, []), (10, .aload_n 0, 0, 0, 0, []), (11, .dup, 0, 0, 0, []), (12, .getfield 165, 36, 8, 0, []), (15, .iconst 1, 0, 0, 0, []), (16, .iadd, 0, 0, 0, []), (17, .putfield 165, 36, 8, 0, []), (20, .return_, 0, 0, 0, [])])
def mk_m89 : Nat × List (List Bool × List mj_I) := (2, [mk_b89_0])
/-- NumbersCalledModel.opensOne(I)Z -/
def mk_b90_0 : List Bool × List mj_I := ([true, true], [(0, .aload_n 0, 0, 0, 0, []), (1, .getfield 171, 37, 8, 0, []), (4, .iconst 5, 0, 0, 0, []), (5, .if_icmp .ne (5), 1, 0, 0, []), (8, .iconst 0, 0, 0, 0, []), (9, .ireturn, 0, 0, 1, [])])
def mk_b90_1 : List Bool × List mj_I := ([true, true], [(10, .aload_n 0, 0, 0, 0, []), (11, .dup, 0, 0, 0, []), (12, .getfield 171, 37, 8, 0, []), (15, .iconst 1, 0, 0, 0, []), (16, .iadd, 0, 0, 0, []), (17, .putfield 171, 37, 8, 0, []), (20, .aload_n 0, 0, 0, 0, []), (21, .iload_n 1, 1, 0, 0, []), (22, .invokevirtual 178, 89, 2, 0, []), (25, .iconst 1, 0, 0, 0, []), (26, .ireturn, 0, 0, 1, [])])
def mk_m90 : Nat × List (List Bool × List mj_I) := (2, [mk_b90_0, mk_b90_1])
/-- NumbersCalledModel.between(I)Z -/
def mk_b91_0 : List Bool × List mj_I := ([true, true], [(0, .aload_n 0, 0, 0, 0, []), (1, .iload_n 1, 1, 0, 0, []), (2, .invokestatic 168, 86, 1, 1, []), (5, .iconst 4, 0, 0, 0, []), (6, .if_icmp .ne (7), 1, 0, 0, []), (9, .iconst 5, 0, 0, 0, []), (10, .goto (7), 2, 0, 0, [])])
def mk_b91_1 : List Bool × List mj_I := ([true, true], [(13, .iload_n 1, 1, 0, 0, []), (14, .invokestatic 168, 86, 1, 1, []), (17, .nop, 2, 0, 0, [])])
def mk_b91_2 : List Bool × List mj_I := ([true, true], [(17, .invokevirtual 181, 88, 2, 0, []), (20, .iload_n 1, 1, 0, 0, []), (21, .invokestatic 168, 86, 1, 1, []), (24, .iconst 4, 0, 0, 0, []), (25, .if_icmp .ne (30), 3, 0, 0, []), (28, .aload_n 0, 0, 0, 0, []), (29, .getfield 165, 36, 8, 0, []), (32, .ifCond .le (23), 3, 0, 0, []), (35, .aload_n 0, 0, 0, 0, []), (36, .getfield 65, 35, 8, 0, []), (39, .aload_n 0, 0, 0, 0, []), (40, .getfield 165, 36, 8, 0, []), (43, .iconst 1, 0, 0, 0, []), (44, .isub, 0, 0, 0, []), (45, .iaload, 0, 0, 0, []), (46, .invokestatic 168, 86, 1, 1, []), (49, .iconst 4, 0, 0, 0, []), (50, .if_icmp .ne (5), 3, 0, 0, []), (53, .iconst 0, 0, 0, 0, []), (54, .ireturn, 0, 0, 1, [])])
def mk_b91_3 : List Bool × List mj_I := ([true, true], [(55, .aload_n 0, 0, 0, 0, []), (56, .iload_n 1, 1, 0, 0, []), (57, .invokevirtual 178, 89, 2, 0, []), (60, .iconst 1, 0, 0, 0, []), (61, .ireturn, 0, 0, 1, [])])
def mk_m91 : Nat × List (List Bool × List mj_I) := (2, [mk_b91_0, mk_b91_1, mk_b91_2, mk_b91_3])
/-- NumbersCalledModel.signOf()I -/
def mk_b92_0 : List Bool × List mj_I := ([true], [(0, .aload_n 0, 0, 0, 0, []), (1, .getfield 152, 32, 8, 0, []), (4, .iconst 4, 0, 0, 0, []), (5, .if_icmp .ne (8), 1, 0, 0, []), (8, .bipush 11, 0, 0, 0, []), (10, .goto (87), 8, 0, 0, [])])
def mk_b92_1 : List Bool × List mj_I := ([true], [(13, .aload_n 0, 0, 0, 0, []), (14, .getfield 152, 32, 8, 0, []), (17, .iconst 5, 0, 0, 0, []), (18, .if_icmp .ne (8), 2, 0, 0, []), (21, .bipush 12, 0, 0, 0, []), (23, .goto (74), 8, 0, 0, [])])
def mk_b92_2 : List Bool × List mj_I := ([true], [(26, .aload_n 0, 0, 0, 0, []), (27, .getfield 152, 32, 8, 0, []), (30, .bipush 60, 0, 0, 0, []), (32, .if_icmp .ne (8), 3, 0, 0, []), (35, .bipush 14, 0, 0, 0, []), (37, .goto (60), 8, 0, 0, [])])
def mk_b92_3 : List Bool × List mj_I := ([true], [(40, .aload_n 0, 0, 0, 0, []), (41, .getfield 152, 32, 8, 0, []), (44, .bipush 61, 0, 0, 0, []), (46, .if_icmp .ne (8), 4, 0, 0, []), (49, .bipush 15, 0, 0, 0, []), (51, .goto (46), 8, 0, 0, [])])
def mk_b92_4 : List Bool × List mj_I := ([true], [(54, .aload_n 0, 0, 0, 0, []), (55, .getfield 152, 32, 8, 0, []), (58, .bipush 43, 0, 0, 0, []), (60, .if_icmp .ne (8), 5, 0, 0, []), (63, .bipush 16, 0, 0, 0, []), (65, .goto (32), 8, 0, 0, [])])
def mk_b92_5 : List Bool × List mj_I := ([true], [(68, .aload_n 0, 0, 0, 0, []), (69, .getfield 152, 32, 8, 0, []), (72, .bipush 45, 0, 0, 0, []), (74, .if_icmp .ne (8), 6, 0, 0, []), (77, .bipush 17, 0, 0, 0, []), (79, .goto (18), 8, 0, 0, [])])
def mk_b92_6 : List Bool × List mj_I := ([true], [(82, .aload_n 0, 0, 0, 0, []), (83, .getfield 152, 32, 8, 0, []), (86, .bipush 42, 0, 0, 0, []), (88, .if_icmp .ne (8), 7, 0, 0, []), (91, .bipush 18, 0, 0, 0, []), (93, .goto (4), 8, 0, 0, [])])
def mk_b92_7 : List Bool × List mj_I := ([false], [(96, .iconst (-1), 0, 0, 0, []), (97, .nop, 8, 0, 0, [])])
def mk_b92_8 : List Bool × List mj_I := ([false], [(97, .ireturn, 0, 0, 0, [])])
def mk_m92 : Nat × List (List Bool × List mj_I) := (1, [mk_b92_0, mk_b92_1, mk_b92_2, mk_b92_3, mk_b92_4, mk_b92_5, mk_b92_6, mk_b92_7, mk_b92_8])
/-- NumbersCalledModel.eRead()Z -/
def mk_b93_0 : List Bool × List mj_I := ([true, false, false, false], [(0, .aload_n 0, 0, 0, 0, []), (1, .iconst 0, 0, 0, 0, []), (2, .putfield 165, 36, 8, 0, []), (5, .aload_n 0, 0, 0, 0, []), (6, .iconst 0, 0, 0, 0, []), (7, .putfield 171, 37, 8, 0, []), (10, .iconst 1, 0, 0, 0, []), (11, .istore_n 1, 1, 0, 0, []), (12, .iconst 1, 0, 0, 0, []), (13, .istore_n 2, 2, 0, 0, []), (14, .nop, 1, 0, 0, [])])
def mk_b93_1 : List Bool × List mj_I := ([true, true, true, false], [(14, .aload_n 0, 0, 0, 0, []), (15, .invokevirtual 184, 85, 1, 0, []), (18, .iload_n 1, 1, 0, 0, []), (19, .ifCond .eq (131), 11, 0, 0, []), (22, .aload_n 0, 0, 0, 0, []), (23, .getfield 152, 32, 8, 0, []), (26, .iconst 1, 0, 0, 0, []), (27, .if_icmp .eq (11), 2, 0, 0, []), (30, .aload_n 0, 0, 0, 0, []), (31, .getfield 152, 32, 8, 0, []), (34, .iconst 2, 0, 0, 0, []), (35, .if_icmp .ne (40), 5, 0, 0, []), (38, .nop, 2, 0, 0, [])])
def mk_b93_2 : List Bool × List mj_I := ([true, false, true, false], [(38, .aload_n 0, 0, 0, 0, []), (39, .aload_n 0, 0, 0, 0, []), (40, .getfield 152, 32, 8, 0, []), (43, .iconst 1, 0, 0, 0, []), (44, .if_icmp .ne (13), 3, 0, 0, []), (47, .ldc 187, 8, 0, 0, []), (49, .aload_n 0, 0, 0, 0, []), (50, .getfield 155, 33, 8, 0, []), (53, .iadd, 0, 0, 0, []), (54, .goto (7), 4, 0, 0, [])])
def mk_b93_3 : List Bool × List mj_I := ([true, false, true, false], [(57, .aload_n 0, 0, 0, 0, []), (58, .getfield 155, 33, 8, 0, []), (61, .nop, 4, 0, 0, [])])
def mk_b93_4 : List Bool × List mj_I := ([true, false, true, false], [(61, .invokevirtual 174, 87, 2, 0, []), (64, .aload_n 0, 0, 0, 0, []), (65, .bipush 7, 0, 0, 0, []), (67, .invokevirtual 181, 88, 2, 0, []), (70, .iconst 0, 0, 0, 0, []), (71, .istore_n 1, 1, 0, 0, []), (72, .goto (-58), 1, 0, 0, [])])
def mk_b93_5 : List Bool × List mj_I := ([true, true, true, false], [(75, .aload_n 0, 0, 0, 0, []), (76, .getfield 152, 32, 8, 0, []), (79, .bipush 6, 0, 0, 0, []), (81, .if_icmp .ne (18), 6, 0, 0, []), (84, .iload_n 2, 2, 0, 0, []), (85, .ifCond .eq (14), 6, 0, 0, []), (88, .aload_n 0, 0, 0, 0, []), (89, .bipush 13, 0, 0, 0, []), (91, .invokevirtual 188, 90, 2, 1, []), (94, .ifCond .ne (-80), 1, 0, 0, []), (97, .iconst 0, 0, 0, 0, []), (98, .ireturn, 0, 0, 1, [])])
def mk_b93_6 : List Bool × List mj_I := ([true, true, false, false], [(99, .aload_n 0, 0, 0, 0, []), (100, .getfield 152, 32, 8, 0, []), (103, .bipush 45, 0, 0, 0, []), (105, .if_icmp .ne (19), 8, 0, 0, []), (108, .aload_n 0, 0, 0, 0, []), (109, .bipush 19, 0, 0, 0, []), (111, .invokevirtual 188, 90, 2, 1, []), (114, .ifCond .ne (5), 7, 0, 0, []), (117, .iconst 0, 0, 0, 0, []), (118, .ireturn, 0, 0, 1, [])])
def mk_b93_7 : List Bool × List mj_I := ([true, true, false, false], [(119, .iconst 0, 0, 0, 0, []), (120, .istore_n 2, 2, 0, 0, []), (121, .goto (-107), 1, 0, 0, [])])
def mk_b93_8 : List Bool × List mj_I := ([true, true, false, false], [(124, .aload_n 0, 0, 0, 0, []), (125, .getfield 152, 32, 8, 0, []), (128, .bipush 40, 0, 0, 0, []), (130, .if_icmp .ne (18), 10, 0, 0, []), (133, .aload_n 0, 0, 0, 0, []), (134, .iconst 0, 0, 0, 0, []), (135, .invokevirtual 188, 90, 2, 1, []), (138, .ifCond .ne (5), 9, 0, 0, []), (141, .iconst 0, 0, 0, 0, []), (142, .ireturn, 0, 0, 1, [])])
def mk_b93_9 : List Bool × List mj_I := ([true, true, false, false], [(143, .iconst 1, 0, 0, 0, []), (144, .istore_n 2, 2, 0, 0, []), (145, .goto (-131), 1, 0, 0, [])])
def mk_b93_10 : List Bool × List mj_I := ([false, false, false, false], [(148, .iconst 0, 0, 0, 0, []), (149, .ireturn, 0, 0, 1, [])])
def mk_b93_11 : List Bool × List mj_I := ([true, true, true, false], [(150, .aload_n 0, 0, 0, 0, []), (151, .getfield 152, 32, 8, 0, []), (154, .bipush 59, 0, 0, 0, []), (156, .if_icmp .ne (21), 14, 0, 0, []), (159, .aload_n 0, 0, 0, 0, []), (160, .iconst 1, 0, 0, 0, []), (161, .invokevirtual 181, 88, 2, 0, []), (164, .aload_n 0, 0, 0, 0, []), (165, .getfield 165, 36, 8, 0, []), (168, .ifCond .ne (7), 12, 0, 0, []), (171, .iconst 1, 0, 0, 0, []), (172, .goto (4), 13, 0, 0, [])])
def mk_b93_12 : List Bool × List mj_I := ([false, false, false, false], [(175, .iconst 0, 0, 0, 0, []), (176, .nop, 13, 0, 0, [])])
def mk_b93_13 : List Bool × List mj_I := ([false, false, false, false], [(176, .ireturn, 0, 0, 1, [])])
def mk_b93_14 : List Bool × List mj_I := ([true, true, true, false], [(177, .aload_n 0, 0, 0, 0, []), (178, .getfield 152, 32, 8, 0, []), (181, .bipush 41, 0, 0, 0, []), (183, .if_icmp .ne (46), 16, 0, 0, []), (186, .aload_n 0, 0, 0, 0, []), (187, .iconst 1, 0, 0, 0, []), (188, .invokevirtual 181, 88, 2, 0, []), (191, .aload_n 0, 0, 0, 0, []), (192, .getfield 165, 36, 8, 0, []), (195, .ifCond .ne (5), 15, 0, 0, []), (198, .iconst 0, 0, 0, 0, []), (199, .ireturn, 0, 0, 1, [])])
def mk_b93_15 : List Bool × List mj_I := ([true, true, true, false], [(200, .aload_n 0, 0, 0, 0, []), (201, .dup, 0, 0, 0, []), (202, .getfield 165, 36, 8, 0, []), (205, .iconst 1, 0, 0, 0, []), (206, .isub, 0, 0, 0, []), (207, .putfield 165, 36, 8, 0, []), (210, .aload_n 0, 0, 0, 0, []), (211, .dup, 0, 0, 0, []), (212, .getfield 171, 37, 8, 0, []), (215, .iconst 1, 0, 0, 0, []), (216, .isub, 0, 0, 0, []), (217, .putfield 171, 37, 8, 0, []), (220, .aload_n 0, 0, 0, 0, []), (221, .bipush 7, 0, 0, 0, []), (223, .invokevirtual 181, 88, 2, 0, []), (226, .goto (-212), 1, 0, 0, [])])
def mk_b93_16 : List Bool × List mj_I := ([true, false, false, false], [(229, .aload_n 0, 0, 0, 0, []), (230, .invokevirtual 191, 92, 1, 1, []), (233, .istore_n 3, 3, 0, 0, []), (234, .iload_n 3, 3, 0, 0, []), (235, .iconst (-1), 0, 0, 0, []), (236, .if_icmp .eq (11), 17, 0, 0, []), (239, .aload_n 0, 0, 0, 0, []), (240, .iload_n 3, 3, 0, 0, []), (241, .invokevirtual 194, 91, 2, 1, []), (244, .ifCond .ne (5), 18, 0, 0, []), (247, .nop, 17, 0, 0, [])])
def mk_b93_17 : List Bool × List mj_I := ([false, false, false, false], [(247, .iconst 0, 0, 0, 0, []), (248, .ireturn, 0, 0, 1, [])])
def mk_b93_18 : List Bool × List mj_I := ([true, false, false, true], [(249, .iconst 1, 0, 0, 0, []), (250, .istore_n 1, 1, 0, 0, []), (251, .iload_n 3, 3, 0, 0, []), (252, .bipush 12, 0, 0, 0, []), (254, .if_icmp .gt (7), 19, 0, 0, []), (257, .iconst 1, 0, 0, 0, []), (258, .goto (4), 20, 0, 0, [])])
def mk_b93_19 : List Bool × List mj_I := ([true, true, false, false], [(261, .iconst 0, 0, 0, 0, []), (262, .nop, 20, 0, 0, [])])
def mk_b93_20 : List Bool × List mj_I := ([true, true, false, false], [(262, .istore_n 2, 2, 0, 0, []), (263, .goto (-249), 1, 0, 0, [])])
def mk_m93 : Nat × List (List Bool × List mj_I) := (4, [mk_b93_0, mk_b93_1, mk_b93_2, mk_b93_3, mk_b93_4, mk_b93_5, mk_b93_6, mk_b93_7, mk_b93_8, mk_b93_9, mk_b93_10, mk_b93_11, mk_b93_12, mk_b93_13, mk_b93_14, mk_b93_15, mk_b93_16, mk_b93_17, mk_b93_18, mk_b93_19, mk_b93_20])
/-- NumbersCalledModel.text()I -/
def mk_b94_0 : List Bool × List mj_I := ([true, false, false], [(0, .aload_n 0, 0, 0, 0, []), (1, .getfield 137, 15, 8, 0, []), (4, .bipush 6, 0, 0, 0, []), (6, .if_icmp .ne (6), 1, 0, 0, []), (9, .bipush (-4), 0, 0, 0, []), (11, .ireturn, 0, 0, 0, [])])
def mk_b94_1 : List Bool × List mj_I := ([true, false, false], [(12, .aload_n 0, 0, 0, 0, []), (13, .iconst 0, 0, 0, 0, []), (14, .putfield 146, 30, 8, 0, []), (17, .aload_n 0, 0, 0, 0, []), (18, .iconst 0, 0, 0, 0, []), (19, .putfield 162, 38, 8, 0, []), (22, .iconst 1, 0, 0, 0, []), (23, .istore_n 1, 1, 0, 0, []), (24, .iconst 0, 0, 0, 0, []), (25, .istore_n 2, 2, 0, 0, []), (26, .nop, 2, 0, 0, [])])
def mk_b94_2 : List Bool × List mj_I := ([true, true, true], [(26, .iload_n 2, 2, 0, 0, []), (27, .iconst 3, 0, 0, 0, []), (28, .if_icmp .ge (73), 7, 0, 0, []), (31, .iload_n 1, 1, 0, 0, []), (32, .ifCond .eq (69), 7, 0, 0, []), (35, .aload_n 0, 0, 0, 0, []), (36, .invokevirtual 184, 85, 1, 0, []), (39, .aload_n 0, 0, 0, 0, []), (40, .getfield 152, 32, 8, 0, []), (43, .iconst 3, 0, 0, 0, []), (44, .if_icmp .ne (15), 3, 0, 0, []), (47, .aload_n 0, 0, 0, 0, []), (48, .getfield 155, 33, 8, 0, []), (51, .iload_n 2, 2, 0, 0, []), (52, .if_icmp .ne (7), 3, 0, 0, []), (55, .iconst 1, 0, 0, 0, []), (56, .goto (4), 4, 0, 0, [])])
def mk_b94_3 : List Bool × List mj_I := ([true, false, true], [(59, .iconst 0, 0, 0, 0, []), (60, .nop, 4, 0, 0, [])])
def mk_b94_4 : List Bool × List mj_I := ([true, false, true], [(60, .istore_n 1, 1, 0, 0, []), (61, .aload_n 0, 0, 0, 0, []), (62, .getfield 41, 14, 8, 0, []), (65, .iconst 4, 0, 0, 0, []), (66, .aload_n 0, 0, 0, 0, []), (67, .getfield 137, 15, 8, 0, []), (70, .imul, 0, 0, 0, []), (71, .iload_n 2, 2, 0, 0, []), (72, .iadd, 0, 0, 0, []), (73, .aload_n 0, 0, 0, 0, []), (74, .getfield 162, 38, 8, 0, []), (77, .iastore, 0, 0, 0, []), (78, .iload_n 1, 1, 0, 0, []), (79, .ifCond .eq (14), 5, 0, 0, []), (82, .aload_n 0, 0, 0, 0, []), (83, .invokevirtual 197, 93, 1, 1, []), (86, .ifCond .eq (7), 5, 0, 0, []), (89, .iconst 1, 0, 0, 0, []), (90, .goto (4), 6, 0, 0, [])])
def mk_b94_5 : List Bool × List mj_I := ([true, false, true], [(93, .iconst 0, 0, 0, 0, []), (94, .nop, 6, 0, 0, [])])
def mk_b94_6 : List Bool × List mj_I := ([true, false, true], [(94, .istore_n 1, 1, 0, 0, []), (95, .iinc 2 1, 2, 0, 0, []), (98, .goto (-72), 2, 0, 0, [])])
def mk_b94_7 : List Bool × List mj_I := ([true, true, false], [(101, .iload_n 1, 1, 0, 0, []), (102, .ifCond .eq (20), 10, 0, 0, []), (105, .aload_n 0, 0, 0, 0, []), (106, .invokevirtual 184, 85, 1, 0, []), (109, .aload_n 0, 0, 0, 0, []), (110, .getfield 152, 32, 8, 0, []), (113, .ifCond .ne (7), 8, 0, 0, []), (116, .iconst 1, 0, 0, 0, []), (117, .goto (4), 9, 0, 0, [])])
def mk_b94_8 : List Bool × List mj_I := ([true, false, false], [(120, .iconst 0, 0, 0, 0, []), (121, .nop, 9, 0, 0, [])])
def mk_b94_9 : List Bool × List mj_I := ([true, false, false], [(121, .istore_n 1, 1, 0, 0, []), (122, .nop, 10, 0, 0, [])])
def mk_b94_10 : List Bool × List mj_I := ([true, true, false], [(122, .aload_n 0, 0, 0, 0, []), (123, .getfield 41, 14, 8, 0, []), (126, .iconst 4, 0, 0, 0, []), (127, .aload_n 0, 0, 0, 0, []), (128, .getfield 137, 15, 8, 0, []), (131, .imul, 0, 0, 0, []), (132, .iconst 3, 0, 0, 0, []), (133, .iadd, 0, 0, 0, []), (134, .aload_n 0, 0, 0, 0, []), (135, .getfield 162, 38, 8, 0, []), (138, .iastore, 0, 0, 0, []), (139, .aload_n 0, 0, 0, 0, []), (140, .iconst 0, 0, 0, 0, []), (141, .putfield 105, 12, 8, 0, []), (144, .iload_n 1, 1, 0, 0, []), (145, .ifCond .ne (11), 11, 0, 0, []), (148, .bipush (-100), 0, 0, 0, []), (150, .aload_n 0, 0, 0, 0, []), (151, .getfield 149, 31, 8, 0, []), (154, .isub, 0, 0, 0, []), (155, .ireturn, 0, 0, 0, [])])
def mk_b94_11 : List Bool × List mj_I := ([true, false, false], [(156, .aload_n 0, 0, 0, 0, []), (157, .dup, 0, 0, 0, []), (158, .getfield 137, 15, 8, 0, []), (161, .iconst 1, 0, 0, 0, []), (162, .iadd, 0, 0, 0, []), (163, .putfield 137, 15, 8, 0, []), (166, .aload_n 0, 0, 0, 0, []), (167, .getfield 137, 15, 8, 0, []), (170, .iconst 1, 0, 0, 0, []), (171, .isub, 0, 0, 0, []), (172, .ireturn, 0, 0, 0, [])])
def mk_m94 : Nat × List (List Bool × List mj_I) := (3, [mk_b94_0, mk_b94_1, mk_b94_2, mk_b94_3, mk_b94_4, mk_b94_5, mk_b94_6, mk_b94_7, mk_b94_8, mk_b94_9, mk_b94_10, mk_b94_11])
/-- NumbersCalledModel.two(III)I -/
def mk_b95_0 : List Bool × List mj_I := ([true, true, true], [(0, .iload_n 0, 0, 0, 0, []), (1, .tableswitch (101) 11 17 #[43, 57, 101, 71, 82, 93, 97], 16, 0, 0, [(11, 1), (12, 5), (13, 16), (14, 8), (15, 11), (16, 14), (17, 15)])])
def mk_b95_1 : List Bool × List mj_I := ([false, true, true], [(44, .iload_n 1, 1, 0, 0, []), (45, .ifCond .ne (7), 2, 0, 0, []), (48, .iload_n 2, 2, 0, 0, []), (49, .ifCond .eq (7), 3, 0, 0, []), (52, .nop, 2, 0, 0, [])])
def mk_b95_2 : List Bool × List mj_I := ([false, false, false], [(52, .iconst 1, 0, 0, 0, []), (53, .goto (4), 4, 0, 0, [])])
def mk_b95_3 : List Bool × List mj_I := ([false, false, false], [(56, .iconst 0, 0, 0, 0, []), (57, .nop, 4, 0, 0, [])])
def mk_b95_4 : List Bool × List mj_I := ([false, false, false], [(57, .ireturn, 0, 0, 0, [])])
def mk_b95_5 : List Bool × List mj_I := ([false, true, true], [(58, .iload_n 1, 1, 0, 0, []), (59, .ifCond .eq (11), 6, 0, 0, []), (62, .iload_n 2, 2, 0, 0, []), (63, .ifCond .eq (7), 6, 0, 0, []), (66, .iconst 1, 0, 0, 0, []), (67, .goto (4), 7, 0, 0, [])])
def mk_b95_6 : List Bool × List mj_I := ([false, false, false], [(70, .iconst 0, 0, 0, 0, []), (71, .nop, 7, 0, 0, [])])
def mk_b95_7 : List Bool × List mj_I := ([false, false, false], [(71, .ireturn, 0, 0, 0, [])])
def mk_b95_8 : List Bool × List mj_I := ([false, true, true], [(72, .iload_n 1, 1, 0, 0, []), (73, .iload_n 2, 2, 0, 0, []), (74, .if_icmp .ge (7), 9, 0, 0, []), (77, .iconst 1, 0, 0, 0, []), (78, .goto (4), 10, 0, 0, [])])
def mk_b95_9 : List Bool × List mj_I := ([false, false, false], [(81, .iconst 0, 0, 0, 0, []), (82, .nop, 10, 0, 0, [])])
def mk_b95_10 : List Bool × List mj_I := ([false, false, false], [(82, .ireturn, 0, 0, 0, [])])
def mk_b95_11 : List Bool × List mj_I := ([false, true, true], [(83, .iload_n 1, 1, 0, 0, []), (84, .iload_n 2, 2, 0, 0, []), (85, .if_icmp .ne (7), 12, 0, 0, []), (88, .iconst 1, 0, 0, 0, []), (89, .goto (4), 13, 0, 0, [])])
def mk_b95_12 : List Bool × List mj_I := ([false, false, false], [(92, .iconst 0, 0, 0, 0, []), (93, .nop, 13, 0, 0, [])])
def mk_b95_13 : List Bool × List mj_I := ([false, false, false], [(93, .ireturn, 0, 0, 0, [])])
def mk_b95_14 : List Bool × List mj_I := ([false, true, true], [(94, .iload_n 1, 1, 0, 0, []), (95, .iload_n 2, 2, 0, 0, []), (96, .iadd, 0, 0, 0, []), (97, .ireturn, 0, 0, 0, [])])
def mk_b95_15 : List Bool × List mj_I := ([false, true, true], [(98, .iload_n 1, 1, 0, 0, []), (99, .iload_n 2, 2, 0, 0, []), (100, .isub, 0, 0, 0, []), (101, .ireturn, 0, 0, 0, [])])
def mk_b95_16 : List Bool × List mj_I := ([false, true, true], [(102, .iload_n 1, 1, 0, 0, []), (103, .iload_n 2, 2, 0, 0, []), (104, .imul, 0, 0, 0, []), (105, .ireturn, 0, 0, 0, [])])
def mk_m95 : Nat × List (List Bool × List mj_I) := (3, [mk_b95_0, mk_b95_1, mk_b95_2, mk_b95_3, mk_b95_4, mk_b95_5, mk_b95_6, mk_b95_7, mk_b95_8, mk_b95_9, mk_b95_10, mk_b95_11, mk_b95_12, mk_b95_13, mk_b95_14, mk_b95_15, mk_b95_16])
/-- NumbersCalledModel.worth(I)I -/
def mk_b96_0 : List Bool × List mj_I := ([true, true, false, false, false], [(0, .iconst 0, 0, 0, 0, []), (1, .istore_n 2, 2, 0, 0, []), (2, .aload_n 0, 0, 0, 0, []), (3, .getfield 41, 14, 8, 0, []), (6, .iconst 4, 0, 0, 0, []), (7, .aload_n 0, 0, 0, 0, []), (8, .getfield 140, 16, 8, 0, []), (11, .imul, 0, 0, 0, []), (12, .iload_n 1, 1, 0, 0, []), (13, .iadd, 0, 0, 0, []), (14, .iaload, 0, 0, 0, []), (15, .istore_n 3, 3, 0, 0, []), (16, .nop, 1, 0, 0, [])])
def mk_b96_1 : List Bool × List mj_I := ([true, true, true, true, false], [(16, .iload_n 3, 3, 0, 0, []), (17, .aload_n 0, 0, 0, 0, []), (18, .getfield 41, 14, 8, 0, []), (21, .iconst 4, 0, 0, 0, []), (22, .aload_n 0, 0, 0, 0, []), (23, .getfield 140, 16, 8, 0, []), (26, .imul, 0, 0, 0, []), (27, .iload_n 1, 1, 0, 0, []), (28, .iadd, 0, 0, 0, []), (29, .iconst 1, 0, 0, 0, []), (30, .iadd, 0, 0, 0, []), (31, .iaload, 0, 0, 0, []), (32, .if_icmp .ge (165), 11, 0, 0, []), (35, .aload_n 0, 0, 0, 0, []), (36, .getfield 38, 13, 8, 0, []), (39, .sipush 200, 0, 0, 0, []), (42, .aload_n 0, 0, 0, 0, []), (43, .getfield 140, 16, 8, 0, []), (46, .imul, 0, 0, 0, []), (47, .iload_n 3, 3, 0, 0, []), (48, .iadd, 0, 0, 0, []), (49, .iaload, 0, 0, 0, []), (50, .istore 4, 4, 0, 0, []), (52, .iload 4, 4, 0, 0, []), (54, .ldc 187, 8, 0, 0, []), (56, .if_icmp .ge (10), 2, 0, 0, []), (59, .iload 4, 4, 0, 0, []), (61, .bipush 11, 0, 0, 0, []), (63, .if_icmp .ge (37), 5, 0, 0, []), (66, .nop, 2, 0, 0, [])])
def mk_b96_2 : List Bool × List mj_I := ([true, true, true, true, true], [(66, .aload_n 0, 0, 0, 0, []), (67, .getfield 68, 39, 8, 0, []), (70, .iload_n 2, 2, 0, 0, []), (71, .iload 4, 4, 0, 0, []), (73, .bipush 11, 0, 0, 0, []), (75, .if_icmp .ge (13), 3, 0, 0, []), (78, .aload_n 0, 0, 0, 0, []), (79, .getfield 71, 40, 8, 0, []), (82, .iload 4, 4, 0, 0, []), (84, .iaload, 0, 0, 0, []), (85, .goto (8), 4, 0, 0, [])])
def mk_b96_3 : List Bool × List mj_I := ([true, true, true, true, true], [(88, .iload 4, 4, 0, 0, []), (90, .ldc 187, 8, 0, 0, []), (92, .isub, 0, 0, 0, []), (93, .nop, 4, 0, 0, [])])
def mk_b96_4 : List Bool × List mj_I := ([true, true, true, true, false], [(93, .iastore, 0, 0, 0, []), (94, .iinc 2 1, 2, 0, 0, []), (97, .goto (94), 10, 0, 0, [])])
def mk_b96_5 : List Bool × List mj_I := ([true, true, true, true, true], [(100, .iload 4, 4, 0, 0, []), (102, .bipush 13, 0, 0, 0, []), (104, .if_icmp .ne (30), 8, 0, 0, []), (107, .aload_n 0, 0, 0, 0, []), (108, .getfield 68, 39, 8, 0, []), (111, .iload_n 2, 2, 0, 0, []), (112, .iconst 1, 0, 0, 0, []), (113, .isub, 0, 0, 0, []), (114, .aload_n 0, 0, 0, 0, []), (115, .getfield 68, 39, 8, 0, []), (118, .iload_n 2, 2, 0, 0, []), (119, .iconst 1, 0, 0, 0, []), (120, .isub, 0, 0, 0, []), (121, .iaload, 0, 0, 0, []), (122, .ifCond .ne (7), 6, 0, 0, []), (125, .iconst 1, 0, 0, 0, []), (126, .goto (4), 7, 0, 0, [])])
def mk_b96_6 : List Bool × List mj_I := ([true, true, true, true, false], [(129, .iconst 0, 0, 0, 0, []), (130, .nop, 7, 0, 0, [])])
def mk_b96_7 : List Bool × List mj_I := ([true, true, true, true, false], [(130, .iastore, 0, 0, 0, []), (131, .goto (60), 10, 0, 0, [])])
def mk_b96_8 : List Bool × List mj_I := ([true, true, true, true, true], [(134, .iload 4, 4, 0, 0, []), (136, .bipush 19, 0, 0, 0, []), (138, .if_icmp .ne (23), 9, 0, 0, []), (141, .aload_n 0, 0, 0, 0, []), (142, .getfield 68, 39, 8, 0, []), (145, .iload_n 2, 2, 0, 0, []), (146, .iconst 1, 0, 0, 0, []), (147, .isub, 0, 0, 0, []), (148, .aload_n 0, 0, 0, 0, []), (149, .getfield 68, 39, 8, 0, []), (152, .iload_n 2, 2, 0, 0, []), (153, .iconst 1, 0, 0, 0, []), (154, .isub, 0, 0, 0, []), (155, .iaload, 0, 0, 0, []), (156, .ineg, 0, 0, 0, []), (157, .iastore, 0, 0, 0, []), (158, .goto (33), 10, 0, 0, [])])
def mk_b96_9 : List Bool × List mj_I := ([true, true, true, true, true], [(161, .iinc 2 (-1), 2, 0, 0, []), (164, .aload_n 0, 0, 0, 0, []), (165, .getfield 68, 39, 8, 0, []), (168, .iload_n 2, 2, 0, 0, []), (169, .iconst 1, 0, 0, 0, []), (170, .isub, 0, 0, 0, []), (171, .iload 4, 4, 0, 0, []), (173, .aload_n 0, 0, 0, 0, []), (174, .getfield 68, 39, 8, 0, []), (177, .iload_n 2, 2, 0, 0, []), (178, .iconst 1, 0, 0, 0, []), (179, .isub, 0, 0, 0, []), (180, .iaload, 0, 0, 0, []), (181, .aload_n 0, 0, 0, 0, []), (182, .getfield 68, 39, 8, 0, []), (185, .iload_n 2, 2, 0, 0, []), (186, .iaload, 0, 0, 0, []), (187, .invokestatic 201, 95, 3, 1, []), (190, .iastore, 0, 0, 0, []), (191, .nop, 10, 0, 0, [])])
def mk_b96_10 : List Bool × List mj_I := ([true, true, true, true, false], [(191, .iinc 3 1, 3, 0, 0, []), (194, .goto (-178), 1, 0, 0, [])])
def mk_b96_11 : List Bool × List mj_I := ([true, false, false, false, false], [(197, .aload_n 0, 0, 0, 0, []), (198, .getfield 68, 39, 8, 0, []), (201, .iconst 0, 0, 0, 0, []), (202, .iaload, 0, 0, 0, []), (203, .ireturn, 0, 0, 0, [])])
def mk_m96 : Nat × List (List Bool × List mj_I) := (5, [mk_b96_0, mk_b96_1, mk_b96_2, mk_b96_3, mk_b96_4, mk_b96_5, mk_b96_6, mk_b96_7, mk_b96_8, mk_b96_9, mk_b96_10, mk_b96_11])
/-- NumbersCalledModel.force(I)I -/
def mk_b97_0 : List Bool × List mj_I := ([true, true, false], [(0, .iload_n 1, 1, 0, 0, []), (1, .iconst 0, 0, 0, 0, []), (2, .aload_n 0, 0, 0, 0, []), (3, .getfield 137, 15, 8, 0, []), (6, .iconst 1, 0, 0, 0, []), (7, .isub, 0, 0, 0, []), (8, .invokestatic 115, 72, 3, 1, []), (11, .ifCond .ne (6), 1, 0, 0, []), (14, .bipush (-2), 0, 0, 0, []), (16, .ireturn, 0, 0, 0, [])])
def mk_b97_1 : List Bool × List mj_I := ([true, true, false], [(17, .aload_n 0, 0, 0, 0, []), (18, .getfield 140, 16, 8, 0, []), (21, .istore_n 2, 2, 0, 0, []), (22, .aload_n 0, 0, 0, 0, []), (23, .iload_n 1, 1, 0, 0, []), (24, .putfield 140, 16, 8, 0, []), (27, .iload_n 2, 2, 0, 0, []), (28, .ireturn, 0, 0, 0, [])])
def mk_m97 : Nat × List (List Bool × List mj_I) := (3, [mk_b97_0, mk_b97_1])
/-- NumbersCalledModel.asksOf(IIIII)I -/
def mk_b98_0 : List Bool × List mj_I := ([true, true, true, true, true, true], [(0, .aload_n 0, 0, 0, 0, []), (1, .getfield 71, 40, 8, 0, []), (4, .iconst 0, 0, 0, 0, []), (5, .aload_n 0, 0, 0, 0, []), (6, .getfield 26, 8, 8, 0, []), (9, .iload_n 2, 2, 0, 0, []), (10, .iaload, 0, 0, 0, []), (11, .iastore, 0, 0, 0, []), (12, .aload_n 0, 0, 0, 0, []), (13, .getfield 71, 40, 8, 0, []), (16, .iconst 1, 0, 0, 0, []), (17, .aload_n 0, 0, 0, 0, []), (18, .getfield 29, 9, 8, 0, []), (21, .iload_n 2, 2, 0, 0, []), (22, .iaload, 0, 0, 0, []), (23, .iastore, 0, 0, 0, []), (24, .aload_n 0, 0, 0, 0, []), (25, .getfield 71, 40, 8, 0, []), (28, .iconst 2, 0, 0, 0, []), (29, .iload_n 3, 3, 0, 0, []), (30, .iastore, 0, 0, 0, []), (31, .aload_n 0, 0, 0, 0, []), (32, .getfield 71, 40, 8, 0, []), (35, .iconst 3, 0, 0, 0, []), (36, .iload 4, 4, 0, 0, []), (38, .iastore, 0, 0, 0, []), (39, .aload_n 0, 0, 0, 0, []), (40, .getfield 71, 40, 8, 0, []), (43, .iconst 4, 0, 0, 0, []), (44, .iload 5, 5, 0, 0, []), (46, .iastore, 0, 0, 0, []), (47, .aload_n 0, 0, 0, 0, []), (48, .getfield 71, 40, 8, 0, []), (51, .iconst 5, 0, 0, 0, []), (52, .aload_n 0, 0, 0, 0, []), (53, .getfield 23, 7, 8, 0, []), (56, .iload_n 2, 2, 0, 0, []), (57, .iaload, 0, 0, 0, []), (58, .iastore, 0, 0, 0, []), (59, .aload_n 0, 0, 0, 0, []), (60, .iload_n 1, 1, 0, 0, []), (61, .invokevirtual 205, 96, 2, 1, []), (64, .iload_n 1, 1, 0, 0, []), (65, .ifCond .ne (7), 1, 0, 0, []), (68, .iconst 1, 0, 0, 0, []), (69, .goto (4), 2, 0, 0, [])])
def mk_b98_1 : List Bool × List mj_I := ([false, true, false, false, false, false], [(72, .iconst 0, 0, 0, 0, []), (73, .nop, 2, 0, 0, [])])
def mk_b98_2 : List Bool × List mj_I := ([false, true, false, false, false, false], [(73, .iload_n 1, 1, 0, 0, []), (74, .ifCond .ne (8), 3, 0, 0, []), (77, .bipush 60, 0, 0, 0, []), (79, .goto (6), 4, 0, 0, [])])
def mk_b98_3 : List Bool × List mj_I := ([false, false, false, false, false, false], [(82, .sipush 999, 0, 0, 0, []), (85, .nop, 4, 0, 0, [])])
def mk_b98_4 : List Bool × List mj_I := ([false, false, false, false, false, false], [(85, .invokestatic 208, 73, 3, 1, []), (88, .ireturn, 0, 0, 0, [])])
def mk_m98 : Nat × List (List Bool × List mj_I) := (6, [mk_b98_0, mk_b98_1, mk_b98_2, mk_b98_3, mk_b98_4])
/-- NumbersCalledModel.pull(III)I -/
def mk_b99_0 : List Bool × List mj_I := ([true, true, true, true, false], [(0, .iload_n 2, 2, 0, 0, []), (1, .ifCond .lt (26), 1, 0, 0, []), (4, .iload_n 2, 2, 0, 0, []), (5, .sipush 1000, 0, 0, 0, []), (8, .idiv, 0, 0, 0, []), (9, .iconst 3, 0, 0, 0, []), (10, .if_icmp .gt (17), 1, 0, 0, []), (13, .iload_n 2, 2, 0, 0, []), (14, .sipush 1000, 0, 0, 0, []), (17, .irem, 0, 0, 0, []), (18, .bipush 9, 0, 0, 0, []), (20, .if_icmp .le (7), 1, 0, 0, []), (23, .iconst 1, 0, 0, 0, []), (24, .goto (4), 2, 0, 0, [])])
def mk_b99_1 : List Bool × List mj_I := ([true, true, true, true, false], [(27, .iconst 0, 0, 0, 0, []), (28, .nop, 2, 0, 0, [])])
def mk_b99_2 : List Bool × List mj_I := ([true, true, true, true, false], [(28, .istore 4, 4, 0, 0, []), (30, .iload_n 1, 1, 0, 0, []), (31, .iconst 0, 0, 0, 0, []), (32, .iconst 5, 0, 0, 0, []), (33, .invokestatic 115, 72, 3, 1, []), (36, .ifCond .eq (18), 3, 0, 0, []), (39, .iload 4, 4, 0, 0, []), (41, .ifCond .eq (13), 3, 0, 0, []), (44, .iload_n 3, 3, 0, 0, []), (45, .iconst 0, 0, 0, 0, []), (46, .bipush 119, 0, 0, 0, []), (48, .invokestatic 115, 72, 3, 1, []), (51, .ifCond .ne (6), 4, 0, 0, []), (54, .nop, 3, 0, 0, [])])
def mk_b99_3 : List Bool × List mj_I := ([false, false, false, false, false], [(54, .bipush (-2), 0, 0, 0, []), (56, .ireturn, 0, 0, 0, [])])
def mk_b99_4 : List Bool × List mj_I := ([true, true, true, true, false], [(57, .aload_n 0, 0, 0, 0, []), (58, .getfield 119, 5, 8, 0, []), (61, .bipush 16, 0, 0, 0, []), (63, .if_icmp .ne (6), 5, 0, 0, []), (66, .bipush (-4), 0, 0, 0, []), (68, .ireturn, 0, 0, 0, [])])
def mk_b99_5 : List Bool × List mj_I := ([true, true, true, true, false], [(69, .aload_n 0, 0, 0, 0, []), (70, .iload_n 1, 1, 0, 0, []), (71, .iload_n 2, 2, 0, 0, []), (72, .iload_n 3, 3, 0, 0, []), (73, .invokevirtual 211, 100, 4, 0, []), (76, .aload_n 0, 0, 0, 0, []), (77, .dup, 0, 0, 0, []), (78, .getfield 119, 5, 8, 0, []), (81, .iconst 1, 0, 0, 0, []), (82, .iadd, 0, 0, 0, []), (83, .putfield 119, 5, 8, 0, []), (86, .aload_n 0, 0, 0, 0, []), (87, .getfield 119, 5, 8, 0, []), (90, .iconst 1, 0, 0, 0, []), (91, .isub, 0, 0, 0, []), (92, .ireturn, 0, 0, 0, [])])
def mk_m99 : Nat × List (List Bool × List mj_I) := (5, [mk_b99_0, mk_b99_1, mk_b99_2, mk_b99_3, mk_b99_4, mk_b99_5])
/-- NumbersCalledModel.comesAs(III)V -/
def mk_b100_0 : List Bool × List mj_I := ([true, true, true, true], [(0, .aload_n 0, 0, 0, 0, []), (1, .getfield 20, 6, 8, 0, []), (4, .aload_n 0, 0, 0, 0, []), (5, .getfield 119, 5, 8, 0, []), (8, .iload_n 1, 1, 0, 0, []), (9, .iastore, 0, 0, 0, []), (10, .aload_n 0, 0, 0, 0, []), (11, .getfield 23, 7, 8, 0, []), (14, .aload_n 0, 0, 0, 0, []), (15, .getfield 119, 5, 8, 0, []), (18, .iload_n 2, 2, 0, 0, []), (19, .sipush 1000, 0, 0, 0, []), (22, .idiv, 0, 0, 0, []), (23, .iastore, 0, 0, 0, []), (24, .aload_n 0, 0, 0, 0, []), (25, .getfield 26, 8, 8, 0, []), (28, .aload_n 0, 0, 0, 0, []), (29, .getfield 119, 5, 8, 0, []), (32, .iload_n 2, 2, 0, 0, []), (33, .bipush 10, 0, 0, 0, []), (35, .idiv, 0, 0, 0, []), (36, .bipush 100, 0, 0, 0, []), (38, .irem, 0, 0, 0, []), (39, .iastore, 0, 0, 0, []), (40, .aload_n 0, 0, 0, 0, []), (41, .getfield 29, 9, 8, 0, []), (44, .aload_n 0, 0, 0, 0, []), (45, .getfield 119, 5, 8, 0, []), (48, .iload_n 2, 2, 0, 0, []), (49, .bipush 10, 0, 0, 0, []), (51, .irem, 0, 0, 0, []), (52, .iastore, 0, 0, 0, []), (53, .aload_n 0, 0, 0, 0, []), (54, .getfield 32, 10, 8, 0, []), (57, .aload_n 0, 0, 0, 0, []), (58, .getfield 119, 5, 8, 0, []), (61, .iload_n 3, 3, 0, 0, []), (62, .iastore, 0, 0, 0, []), (63, .return_, 0, 0, 0, [])])
def mk_m100 : Nat × List (List Bool × List mj_I) := (4, [mk_b100_0])
/-- NumbersCalledModel.move(II)I -/
def mk_b101_0 : List Bool × List mj_I := ([true, true, true, false], [(0, .aload_n 0, 0, 0, 0, []), (1, .iload_n 1, 1, 0, 0, []), (2, .invokevirtual 215, 75, 2, 1, []), (5, .ifCond .ne (6), 1, 0, 0, []), (8, .bipush (-5), 0, 0, 0, []), (10, .ireturn, 0, 0, 0, [])])
def mk_b101_1 : List Bool × List mj_I := ([true, true, true, false], [(11, .iload_n 2, 2, 0, 0, []), (12, .iconst 0, 0, 0, 0, []), (13, .bipush 119, 0, 0, 0, []), (15, .invokestatic 115, 72, 3, 1, []), (18, .ifCond .ne (6), 2, 0, 0, []), (21, .bipush (-7), 0, 0, 0, []), (23, .ireturn, 0, 0, 0, [])])
def mk_b101_2 : List Bool × List mj_I := ([true, true, true, false], [(24, .aload_n 0, 0, 0, 0, []), (25, .getfield 32, 10, 8, 0, []), (28, .iload_n 1, 1, 0, 0, []), (29, .iaload, 0, 0, 0, []), (30, .istore_n 3, 3, 0, 0, []), (31, .aload_n 0, 0, 0, 0, []), (32, .getfield 32, 10, 8, 0, []), (35, .iload_n 1, 1, 0, 0, []), (36, .iload_n 2, 2, 0, 0, []), (37, .iastore, 0, 0, 0, []), (38, .iload_n 3, 3, 0, 0, []), (39, .ireturn, 0, 0, 0, [])])
def mk_m101 : Nat × List (List Bool × List mj_I) := (4, [mk_b101_0, mk_b101_1, mk_b101_2])
/-- NumbersCalledModel.forget()I -/
def mk_b102_0 : List Bool × List mj_I := ([true], [(0, .aload_n 0, 0, 0, 0, []), (1, .getfield 119, 5, 8, 0, []), (4, .ifCond .ne (6), 1, 0, 0, []), (7, .bipush (-3), 0, 0, 0, []), (9, .ireturn, 0, 0, 0, [])])
def mk_b102_1 : List Bool × List mj_I := ([true], [(10, .aload_n 0, 0, 0, 0, []), (11, .dup, 0, 0, 0, []), (12, .getfield 119, 5, 8, 0, []), (15, .iconst 1, 0, 0, 0, []), (16, .isub, 0, 0, 0, []), (17, .putfield 119, 5, 8, 0, []), (20, .aload_n 0, 0, 0, 0, []), (21, .aload_n 0, 0, 0, 0, []), (22, .getfield 218, 17, 8, 1, []), (25, .ifCond .eq (18), 2, 0, 0, []), (28, .aload_n 0, 0, 0, 0, []), (29, .getfield 222, 22, 8, 0, []), (32, .aload_n 0, 0, 0, 0, []), (33, .getfield 119, 5, 8, 0, []), (36, .if_icmp .gt (7), 2, 0, 0, []), (39, .iconst 1, 0, 0, 0, []), (40, .goto (4), 3, 0, 0, [])])
def mk_b102_2 : List Bool × List mj_I := ([true], [(43, .iconst 0, 0, 0, 0, []), (44, .nop, 3, 0, 0, [])])
def mk_b102_3 : List Bool × List mj_I := ([true], [(44, .putfield 218, 17, 8, 1, []), (47, .aload_n 0, 0, 0, 0, []), (48, .getfield 119, 5, 8, 0, []), (51, .ireturn, 0, 0, 0, [])])
def mk_m102 : Nat × List (List Bool × List mj_I) := (1, [mk_b102_0, mk_b102_1, mk_b102_2, mk_b102_3])
/-- NumbersCalledModel.needs(I)I -/
def mk_b103_0 : List Bool × List mj_I := ([true, true], [(0, .aload_n 0, 0, 0, 0, []), (1, .getfield 20, 6, 8, 0, []), (4, .iload_n 1, 1, 0, 0, []), (5, .iaload, 0, 0, 0, []), (6, .iconst 2, 0, 0, 0, []), (7, .if_icmp .ne (16), 1, 0, 0, []), (10, .aload_n 0, 0, 0, 0, []), (11, .getfield 23, 7, 8, 0, []), (14, .iload_n 1, 1, 0, 0, []), (15, .iaload, 0, 0, 0, []), (16, .iconst 1, 0, 0, 0, []), (17, .iadd, 0, 0, 0, []), (18, .iconst 4, 0, 0, 0, []), (19, .irem, 0, 0, 0, []), (20, .goto (9), 2, 0, 0, [])])
def mk_b103_1 : List Bool × List mj_I := ([true, true], [(23, .aload_n 0, 0, 0, 0, []), (24, .getfield 23, 7, 8, 0, []), (27, .iload_n 1, 1, 0, 0, []), (28, .iaload, 0, 0, 0, []), (29, .nop, 2, 0, 0, [])])
def mk_b103_2 : List Bool × List mj_I := ([false, false], [(29, .ireturn, 0, 0, 0, [])])
def mk_m103 : Nat × List (List Bool × List mj_I) := (2, [mk_b103_0, mk_b103_1, mk_b103_2])
/-- NumbersCalledModel.told(II)I -/
def mk_b104_0 : List Bool × List mj_I := ([true, true, true], [(0, .aload_n 0, 0, 0, 0, []), (1, .iload_n 1, 1, 0, 0, []), (2, .invokevirtual 215, 75, 2, 1, []), (5, .ifCond .ne (6), 1, 0, 0, []), (8, .bipush (-5), 0, 0, 0, []), (10, .ireturn, 0, 0, 0, [])])
def mk_b104_1 : List Bool × List mj_I := ([true, true, true], [(11, .iload_n 2, 2, 0, 0, []), (12, .tableswitch (81) 0 5 #[40, 47, 54, 61, 68, 75], 8, 0, 0, [(0, 2), (1, 3), (2, 4), (3, 5), (4, 6), (5, 7)])])
def mk_b104_2 : List Bool × List mj_I := ([true, true, false], [(52, .aload_n 0, 0, 0, 0, []), (53, .getfield 20, 6, 8, 0, []), (56, .iload_n 1, 1, 0, 0, []), (57, .iaload, 0, 0, 0, []), (58, .ireturn, 0, 0, 0, [])])
def mk_b104_3 : List Bool × List mj_I := ([true, true, false], [(59, .aload_n 0, 0, 0, 0, []), (60, .getfield 23, 7, 8, 0, []), (63, .iload_n 1, 1, 0, 0, []), (64, .iaload, 0, 0, 0, []), (65, .ireturn, 0, 0, 0, [])])
def mk_b104_4 : List Bool × List mj_I := ([true, true, false], [(66, .aload_n 0, 0, 0, 0, []), (67, .getfield 26, 8, 8, 0, []), (70, .iload_n 1, 1, 0, 0, []), (71, .iaload, 0, 0, 0, []), (72, .ireturn, 0, 0, 0, [])])
def mk_b104_5 : List Bool × List mj_I := ([true, true, false], [(73, .aload_n 0, 0, 0, 0, []), (74, .getfield 29, 9, 8, 0, []), (77, .iload_n 1, 1, 0, 0, []), (78, .iaload, 0, 0, 0, []), (79, .ireturn, 0, 0, 0, [])])
def mk_b104_6 : List Bool × List mj_I := ([true, true, false], [(80, .aload_n 0, 0, 0, 0, []), (81, .getfield 32, 10, 8, 0, []), (84, .iload_n 1, 1, 0, 0, []), (85, .iaload, 0, 0, 0, []), (86, .ireturn, 0, 0, 0, [])])
def mk_b104_7 : List Bool × List mj_I := ([true, true, false], [(87, .aload_n 0, 0, 0, 0, []), (88, .iload_n 1, 1, 0, 0, []), (89, .invokevirtual 225, 103, 2, 1, []), (92, .ireturn, 0, 0, 0, [])])
def mk_b104_8 : List Bool × List mj_I := ([false, false, false], [(93, .bipush (-7), 0, 0, 0, []), (95, .ireturn, 0, 0, 0, [])])
def mk_m104 : Nat × List (List Bool × List mj_I) := (3, [mk_b104_0, mk_b104_1, mk_b104_2, mk_b104_3, mk_b104_4, mk_b104_5, mk_b104_6, mk_b104_7, mk_b104_8])
/-- NumbersCalledModel.takesOf(III)I -/
def mk_b105_0 : List Bool × List mj_I := ([true, true, true, true, false], [(0, .aload_n 0, 0, 0, 0, []), (1, .iconst 0, 0, 0, 0, []), (2, .iload_n 1, 1, 0, 0, []), (3, .aload_n 0, 0, 0, 0, []), (4, .getfield 7, 1, 8, 0, []), (7, .iconst 3, 0, 0, 0, []), (8, .iload_n 2, 2, 0, 0, []), (9, .imul, 0, 0, 0, []), (10, .iconst 1, 0, 0, 0, []), (11, .iadd, 0, 0, 0, []), (12, .iaload, 0, 0, 0, []), (13, .iload_n 3, 3, 0, 0, []), (14, .iconst 0, 0, 0, 0, []), (15, .invokevirtual 228, 98, 6, 1, []), (18, .istore 4, 4, 0, 0, []), (20, .aload_n 0, 0, 0, 0, []), (21, .getfield 20, 6, 8, 0, []), (24, .iload_n 1, 1, 0, 0, []), (25, .iaload, 0, 0, 0, []), (26, .iconst 3, 0, 0, 0, []), (27, .if_icmp .ne (23), 1, 0, 0, []), (30, .aload_n 0, 0, 0, 0, []), (31, .getfield 232, 41, 8, 1, []), (34, .ifCond .ne (16), 1, 0, 0, []), (37, .iconst 2, 0, 0, 0, []), (38, .iload 4, 4, 0, 0, []), (40, .imul, 0, 0, 0, []), (41, .iconst 1, 0, 0, 0, []), (42, .bipush 60, 0, 0, 0, []), (44, .invokestatic 208, 73, 3, 1, []), (47, .goto (5), 2, 0, 0, [])])
def mk_b105_1 : List Bool × List mj_I := ([false, false, false, false, true], [(50, .iload 4, 4, 0, 0, []), (52, .nop, 2, 0, 0, [])])
def mk_b105_2 : List Bool × List mj_I := ([false, false, false, false, false], [(52, .ireturn, 0, 0, 0, [])])
def mk_m105 : Nat × List (List Bool × List mj_I) := (5, [mk_b105_0, mk_b105_1, mk_b105_2])
/-- NumbersCalledModel.isThere(II)Z -/
def mk_b106_0 : List Bool × List mj_I := ([true, true, true, false], [(0, .aload_n 0, 0, 0, 0, []), (1, .getfield 20, 6, 8, 0, []), (4, .iload_n 1, 1, 0, 0, []), (5, .iaload, 0, 0, 0, []), (6, .iconst 5, 0, 0, 0, []), (7, .if_icmp .ne (11), 1, 0, 0, []), (10, .iload_n 2, 2, 0, 0, []), (11, .bipush 30, 0, 0, 0, []), (13, .if_icmp .lt (5), 1, 0, 0, []), (16, .iconst 1, 0, 0, 0, []), (17, .ireturn, 0, 0, 1, [])])
def mk_b106_1 : List Bool × List mj_I := ([true, true, true, false], [(18, .aload_n 0, 0, 0, 0, []), (19, .getfield 20, 6, 8, 0, []), (22, .iload_n 1, 1, 0, 0, []), (23, .iaload, 0, 0, 0, []), (24, .iconst 1, 0, 0, 0, []), (25, .if_icmp .eq (13), 2, 0, 0, []), (28, .aload_n 0, 0, 0, 0, []), (29, .getfield 20, 6, 8, 0, []), (32, .iload_n 1, 1, 0, 0, []), (33, .iaload, 0, 0, 0, []), (34, .iconst 5, 0, 0, 0, []), (35, .if_icmp .ne (23), 3, 0, 0, []), (38, .nop, 2, 0, 0, [])])
def mk_b106_2 : List Bool × List mj_I := ([true, true, true, false], [(38, .iload_n 2, 2, 0, 0, []), (39, .aload_n 0, 0, 0, 0, []), (40, .getfield 29, 9, 8, 0, []), (43, .iload_n 1, 1, 0, 0, []), (44, .iaload, 0, 0, 0, []), (45, .iconst 2, 0, 0, 0, []), (46, .iadd, 0, 0, 0, []), (47, .idiv, 0, 0, 0, []), (48, .iconst 2, 0, 0, 0, []), (49, .irem, 0, 0, 0, []), (50, .iconst 1, 0, 0, 0, []), (51, .if_icmp .ne (7), 3, 0, 0, []), (54, .iconst 1, 0, 0, 0, []), (55, .goto (4), 4, 0, 0, [])])
def mk_b106_3 : List Bool × List mj_I := ([true, true, true, false], [(58, .iconst 0, 0, 0, 0, []), (59, .nop, 4, 0, 0, [])])
def mk_b106_4 : List Bool × List mj_I := ([true, true, true, false], [(59, .istore_n 3, 3, 0, 0, []), (60, .iload_n 3, 3, 0, 0, []), (61, .ifCond .ne (20), 5, 0, 0, []), (64, .iload_n 2, 2, 0, 0, []), (65, .aload_n 0, 0, 0, 0, []), (66, .iconst 1, 0, 0, 0, []), (67, .iload_n 1, 1, 0, 0, []), (68, .iconst 0, 0, 0, 0, []), (69, .iload_n 2, 2, 0, 0, []), (70, .iconst 0, 0, 0, 0, []), (71, .invokevirtual 228, 98, 6, 1, []), (74, .if_icmp .gt (7), 5, 0, 0, []), (77, .iconst 1, 0, 0, 0, []), (78, .goto (4), 6, 0, 0, [])])
def mk_b106_5 : List Bool × List mj_I := ([false, false, false, false], [(81, .iconst 0, 0, 0, 0, []), (82, .nop, 6, 0, 0, [])])
def mk_b106_6 : List Bool × List mj_I := ([false, false, false, false], [(82, .ireturn, 0, 0, 1, [])])
def mk_m106 : Nat × List (List Bool × List mj_I) := (4, [mk_b106_0, mk_b106_1, mk_b106_2, mk_b106_3, mk_b106_4, mk_b106_5, mk_b106_6])
/-- NumbersCalledModel.asks(IIIII)I -/
def mk_b107_0 : List Bool × List mj_I := ([true, true, true, true, true, true], [(0, .aload_n 0, 0, 0, 0, []), (1, .iload_n 1, 1, 0, 0, []), (2, .invokevirtual 215, 75, 2, 1, []), (5, .ifCond .eq (11), 1, 0, 0, []), (8, .aload_n 0, 0, 0, 0, []), (9, .iload_n 2, 2, 0, 0, []), (10, .invokevirtual 126, 74, 2, 1, []), (13, .ifCond .ne (6), 2, 0, 0, []), (16, .nop, 1, 0, 0, [])])
def mk_b107_1 : List Bool × List mj_I := ([false, false, false, false, false, false], [(16, .bipush (-5), 0, 0, 0, []), (18, .ireturn, 0, 0, 0, [])])
def mk_b107_2 : List Bool × List mj_I := ([true, true, true, true, true, true], [(19, .iload_n 3, 3, 0, 0, []), (20, .iconst 0, 0, 0, 0, []), (21, .sipush 999, 0, 0, 0, []), (24, .invokestatic 115, 72, 3, 1, []), (27, .ifCond .eq (25), 3, 0, 0, []), (30, .iload 4, 4, 0, 0, []), (32, .iconst 0, 0, 0, 0, []), (33, .sipush 999, 0, 0, 0, []), (36, .invokestatic 115, 72, 3, 1, []), (39, .ifCond .eq (13), 3, 0, 0, []), (42, .iload 5, 5, 0, 0, []), (44, .iconst 0, 0, 0, 0, []), (45, .iconst 2, 0, 0, 0, []), (46, .invokestatic 115, 72, 3, 1, []), (49, .ifCond .ne (6), 4, 0, 0, []), (52, .nop, 3, 0, 0, [])])
def mk_b107_3 : List Bool × List mj_I := ([false, false, false, false, false, false], [(52, .bipush (-7), 0, 0, 0, []), (54, .ireturn, 0, 0, 0, [])])
def mk_b107_4 : List Bool × List mj_I := ([true, true, true, true, true, true], [(55, .iload 5, 5, 0, 0, []), (57, .ifCond .ne (13), 5, 0, 0, []), (60, .aload_n 0, 0, 0, 0, []), (61, .iload_n 1, 1, 0, 0, []), (62, .iload_n 2, 2, 0, 0, []), (63, .iload_n 3, 3, 0, 0, []), (64, .invokevirtual 235, 105, 4, 1, []), (67, .goto (36), 8, 0, 0, [])])
def mk_b107_5 : List Bool × List mj_I := ([true, true, false, true, true, true], [(70, .iload 5, 5, 0, 0, []), (72, .iconst 1, 0, 0, 0, []), (73, .if_icmp .ne (20), 7, 0, 0, []), (76, .aload_n 0, 0, 0, 0, []), (77, .iload_n 1, 1, 0, 0, []), (78, .iload_n 3, 3, 0, 0, []), (79, .invokevirtual 238, 106, 3, 1, []), (82, .ifCond .eq (7), 6, 0, 0, []), (85, .iconst 1, 0, 0, 0, []), (86, .goto (17), 8, 0, 0, [])])
def mk_b107_6 : List Bool × List mj_I := ([false, false, false, false, false, false], [(89, .iconst 0, 0, 0, 0, []), (90, .goto (13), 8, 0, 0, [])])
def mk_b107_7 : List Bool × List mj_I := ([true, true, false, true, true, false], [(93, .aload_n 0, 0, 0, 0, []), (94, .iconst 2, 0, 0, 0, []), (95, .iload_n 1, 1, 0, 0, []), (96, .iconst 0, 0, 0, 0, []), (97, .iload_n 3, 3, 0, 0, []), (98, .iload 4, 4, 0, 0, []), (100, .invokevirtual 228, 98, 6, 1, []), (103, .nop, 8, 0, 0, [])])
def mk_b107_8 : List Bool × List mj_I := ([false, false, false, false, false, false], [(103, .ireturn, 0, 0, 0, [])])
def mk_m107 : Nat × List (List Bool × List mj_I) := (6, [mk_b107_0, mk_b107_1, mk_b107_2, mk_b107_3, mk_b107_4, mk_b107_5, mk_b107_6, mk_b107_7, mk_b107_8])
/-- NumbersCalledModel.isAhead(II)Z -/
def mk_b108_0 : List Bool × List mj_I := ([true, true, true, false, false], [(0, .aload_n 0, 0, 0, 0, []), (1, .getfield 134, 2, 8, 0, []), (4, .iconst 1, 0, 0, 0, []), (5, .if_icmp .ne (21), 2, 0, 0, []), (8, .aload_n 0, 0, 0, 0, []), (9, .getfield 20, 6, 8, 0, []), (12, .iload_n 1, 1, 0, 0, []), (13, .iaload, 0, 0, 0, []), (14, .iconst 4, 0, 0, 0, []), (15, .if_icmp .ne (7), 1, 0, 0, []), (18, .iconst 0, 0, 0, 0, []), (19, .goto (51), 6, 0, 0, [])])
def mk_b108_1 : List Bool × List mj_I := ([true, true, true, false, false], [(22, .iconst 1, 0, 0, 0, []), (23, .goto (47), 6, 0, 0, [])])
def mk_b108_2 : List Bool × List mj_I := ([true, true, true, false, false], [(26, .aload_n 0, 0, 0, 0, []), (27, .getfield 134, 2, 8, 0, []), (30, .iconst 2, 0, 0, 0, []), (31, .if_icmp .ne (12), 3, 0, 0, []), (34, .aload_n 0, 0, 0, 0, []), (35, .getfield 26, 8, 8, 0, []), (38, .iload_n 1, 1, 0, 0, []), (39, .iaload, 0, 0, 0, []), (40, .goto (30), 6, 0, 0, [])])
def mk_b108_3 : List Bool × List mj_I := ([true, true, true, false, false], [(43, .aload_n 0, 0, 0, 0, []), (44, .getfield 134, 2, 8, 0, []), (47, .iconst 3, 0, 0, 0, []), (48, .if_icmp .ne (21), 5, 0, 0, []), (51, .aload_n 0, 0, 0, 0, []), (52, .getfield 20, 6, 8, 0, []), (55, .iload_n 1, 1, 0, 0, []), (56, .iaload, 0, 0, 0, []), (57, .iconst 3, 0, 0, 0, []), (58, .if_icmp .ne (7), 4, 0, 0, []), (61, .iconst 0, 0, 0, 0, []), (62, .goto (8), 6, 0, 0, [])])
def mk_b108_4 : List Bool × List mj_I := ([true, true, true, false, false], [(65, .iconst 1, 0, 0, 0, []), (66, .goto (4), 6, 0, 0, [])])
def mk_b108_5 : List Bool × List mj_I := ([true, true, true, false, false], [(69, .iconst 0, 0, 0, 0, []), (70, .nop, 6, 0, 0, [])])
def mk_b108_6 : List Bool × List mj_I := ([true, true, true, false, false], [(70, .istore_n 3, 3, 0, 0, []), (71, .aload_n 0, 0, 0, 0, []), (72, .getfield 134, 2, 8, 0, []), (75, .iconst 1, 0, 0, 0, []), (76, .if_icmp .ne (21), 8, 0, 0, []), (79, .aload_n 0, 0, 0, 0, []), (80, .getfield 20, 6, 8, 0, []), (83, .iload_n 2, 2, 0, 0, []), (84, .iaload, 0, 0, 0, []), (85, .iconst 4, 0, 0, 0, []), (86, .if_icmp .ne (7), 7, 0, 0, []), (89, .iconst 0, 0, 0, 0, []), (90, .goto (51), 12, 0, 0, [])])
def mk_b108_7 : List Bool × List mj_I := ([true, true, true, true, false], [(93, .iconst 1, 0, 0, 0, []), (94, .goto (47), 12, 0, 0, [])])
def mk_b108_8 : List Bool × List mj_I := ([true, true, true, true, false], [(97, .aload_n 0, 0, 0, 0, []), (98, .getfield 134, 2, 8, 0, []), (101, .iconst 2, 0, 0, 0, []), (102, .if_icmp .ne (12), 9, 0, 0, []), (105, .aload_n 0, 0, 0, 0, []), (106, .getfield 26, 8, 8, 0, []), (109, .iload_n 2, 2, 0, 0, []), (110, .iaload, 0, 0, 0, []), (111, .goto (30), 12, 0, 0, [])])
def mk_b108_9 : List Bool × List mj_I := ([true, true, true, true, false], [(114, .aload_n 0, 0, 0, 0, []), (115, .getfield 134, 2, 8, 0, []), (118, .iconst 3, 0, 0, 0, []), (119, .if_icmp .ne (21), 11, 0, 0, []), (122, .aload_n 0, 0, 0, 0, []), (123, .getfield 20, 6, 8, 0, []), (126, .iload_n 2, 2, 0, 0, []), (127, .iaload, 0, 0, 0, []), (128, .iconst 3, 0, 0, 0, []), (129, .if_icmp .ne (7), 10, 0, 0, []), (132, .iconst 0, 0, 0, 0, []), (133, .goto (8), 12, 0, 0, [])])
def mk_b108_10 : List Bool × List mj_I := ([true, true, true, true, false], [(136, .iconst 1, 0, 0, 0, []), (137, .goto (4), 12, 0, 0, [])])
def mk_b108_11 : List Bool × List mj_I := ([true, true, true, true, false], [(140, .iconst 0, 0, 0, 0, []), (141, .nop, 12, 0, 0, [])])
def mk_b108_12 : List Bool × List mj_I := ([true, true, true, true, false], [(141, .istore 4, 4, 0, 0, []), (143, .iload_n 3, 3, 0, 0, []), (144, .iload 4, 4, 0, 0, []), (146, .if_icmp .eq (15), 15, 0, 0, []), (149, .iload_n 3, 3, 0, 0, []), (150, .iload 4, 4, 0, 0, []), (152, .if_icmp .ge (7), 13, 0, 0, []), (155, .iconst 1, 0, 0, 0, []), (156, .goto (4), 14, 0, 0, [])])
def mk_b108_13 : List Bool × List mj_I := ([false, false, false, false, false], [(159, .iconst 0, 0, 0, 0, []), (160, .nop, 14, 0, 0, [])])
def mk_b108_14 : List Bool × List mj_I := ([false, false, false, false, false], [(160, .ireturn, 0, 0, 1, [])])
def mk_b108_15 : List Bool × List mj_I := ([true, true, true, false, false], [(161, .aload_n 0, 0, 0, 0, []), (162, .getfield 32, 10, 8, 0, []), (165, .iload_n 1, 1, 0, 0, []), (166, .iaload, 0, 0, 0, []), (167, .aload_n 0, 0, 0, 0, []), (168, .getfield 32, 10, 8, 0, []), (171, .iload_n 2, 2, 0, 0, []), (172, .iaload, 0, 0, 0, []), (173, .if_icmp .lt (23), 16, 0, 0, []), (176, .aload_n 0, 0, 0, 0, []), (177, .getfield 32, 10, 8, 0, []), (180, .iload_n 1, 1, 0, 0, []), (181, .iaload, 0, 0, 0, []), (182, .aload_n 0, 0, 0, 0, []), (183, .getfield 32, 10, 8, 0, []), (186, .iload_n 2, 2, 0, 0, []), (187, .iaload, 0, 0, 0, []), (188, .if_icmp .ne (12), 17, 0, 0, []), (191, .iload_n 1, 1, 0, 0, []), (192, .iload_n 2, 2, 0, 0, []), (193, .if_icmp .ge (7), 17, 0, 0, []), (196, .nop, 16, 0, 0, [])])
def mk_b108_16 : List Bool × List mj_I := ([false, false, false, false, false], [(196, .iconst 1, 0, 0, 0, []), (197, .goto (4), 18, 0, 0, [])])
def mk_b108_17 : List Bool × List mj_I := ([false, false, false, false, false], [(200, .iconst 0, 0, 0, 0, []), (201, .nop, 18, 0, 0, [])])
def mk_b108_18 : List Bool × List mj_I := ([false, false, false, false, false], [(201, .ireturn, 0, 0, 1, [])])
def mk_m108 : Nat × List (List Bool × List mj_I) := (5, [mk_b108_0, mk_b108_1, mk_b108_2, mk_b108_3, mk_b108_4, mk_b108_5, mk_b108_6, mk_b108_7, mk_b108_8, mk_b108_9, mk_b108_10, mk_b108_11, mk_b108_12, mk_b108_13, mk_b108_14, mk_b108_15, mk_b108_16, mk_b108_17, mk_b108_18])
/-- NumbersCalledModel.firstFor(I)I -/
def mk_b109_0 : List Bool × List mj_I := ([true, true, false, false], [(0, .iconst (-1), 0, 0, 0, []), (1, .istore_n 2, 2, 0, 0, []), (2, .iconst 0, 0, 0, 0, []), (3, .istore_n 3, 3, 0, 0, []), (4, .nop, 1, 0, 0, [])])
def mk_b109_1 : List Bool × List mj_I := ([true, true, true, true], [(4, .iload_n 3, 3, 0, 0, []), (5, .aload_n 0, 0, 0, 0, []), (6, .getfield 119, 5, 8, 0, []), (9, .if_icmp .ge (60), 6, 0, 0, []), (12, .aload_n 0, 0, 0, 0, []), (13, .getfield 74, 42, 8, 0, []), (16, .iload_n 3, 3, 0, 0, []), (17, .iaload, 0, 0, 0, []), (18, .iconst 1, 0, 0, 0, []), (19, .if_icmp .ne (44), 5, 0, 0, []), (22, .aload_n 0, 0, 0, 0, []), (23, .getfield 7, 1, 8, 0, []), (26, .iconst 3, 0, 0, 0, []), (27, .iload_n 1, 1, 0, 0, []), (28, .imul, 0, 0, 0, []), (29, .iaload, 0, 0, 0, []), (30, .aload_n 0, 0, 0, 0, []), (31, .getfield 77, 43, 8, 0, []), (34, .iload_n 3, 3, 0, 0, []), (35, .iaload, 0, 0, 0, []), (36, .ishr, 0, 0, 0, []), (37, .iconst 1, 0, 0, 0, []), (38, .iand, 0, 0, 0, []), (39, .iconst 1, 0, 0, 0, []), (40, .if_icmp .ne (23), 5, 0, 0, []), (43, .iload_n 2, 2, 0, 0, []), (44, .iconst (-1), 0, 0, 0, []), (45, .if_icmp .eq (12), 2, 0, 0, []), (48, .aload_n 0, 0, 0, 0, []), (49, .iload_n 3, 3, 0, 0, []), (50, .iload_n 2, 2, 0, 0, []), (51, .invokevirtual 241, 108, 3, 1, []), (54, .ifCond .eq (7), 3, 0, 0, []), (57, .nop, 2, 0, 0, [])])
def mk_b109_2 : List Bool × List mj_I := ([true, true, false, true], [(57, .iload_n 3, 3, 0, 0, []), (58, .goto (4), 4, 0, 0, [])])
def mk_b109_3 : List Bool × List mj_I := ([true, true, true, true], [(61, .iload_n 2, 2, 0, 0, []), (62, .nop, 4, 0, 0, [])])
def mk_b109_4 : List Bool × List mj_I := ([true, true, false, true], [(62, .istore_n 2, 2, 0, 0, []), (63, .nop, 5, 0, 0, [])])
def mk_b109_5 : List Bool × List mj_I := ([true, true, true, true], [(63, .iinc 3 1, 3, 0, 0, []), (66, .goto (-62), 1, 0, 0, [])])
def mk_b109_6 : List Bool × List mj_I := ([false, false, true, false], [(69, .iload_n 2, 2, 0, 0, []), (70, .ireturn, 0, 0, 0, [])])
def mk_m109 : Nat × List (List Bool × List mj_I) := (4, [mk_b109_0, mk_b109_1, mk_b109_2, mk_b109_3, mk_b109_4, mk_b109_5, mk_b109_6])
/-- NumbersCalledModel.callsOne(III)V -/
def mk_b110_0 : List Bool × List mj_I := ([true, true, true, true, false], [(0, .iload_n 3, 3, 0, 0, []), (1, .aload_n 0, 0, 0, 0, []), (2, .getfield 32, 10, 8, 0, []), (5, .iload_n 2, 2, 0, 0, []), (6, .iaload, 0, 0, 0, []), (7, .isub, 0, 0, 0, []), (8, .istore 4, 4, 0, 0, []), (10, .aload_n 0, 0, 0, 0, []), (11, .getfield 89, 47, 8, 0, []), (14, .iload_n 2, 2, 0, 0, []), (15, .dup2, 0, 0, 0, []), (16, .iaload, 0, 0, 0, []), (17, .iconst 1, 0, 0, 0, []), (18, .iadd, 0, 0, 0, []), (19, .iastore, 0, 0, 0, []), (20, .aload_n 0, 0, 0, 0, []), (21, .iload_n 2, 2, 0, 0, []), (22, .iload 4, 4, 0, 0, []), (24, .invokevirtual 238, 106, 3, 1, []), (27, .ifCond .ne (30), 3, 0, 0, []), (30, .aload_n 0, 0, 0, 0, []), (31, .getfield 74, 42, 8, 0, []), (34, .iload_n 2, 2, 0, 0, []), (35, .aload_n 0, 0, 0, 0, []), (36, .getfield 89, 47, 8, 0, []), (39, .iload_n 2, 2, 0, 0, []), (40, .iaload, 0, 0, 0, []), (41, .aload_n 0, 0, 0, 0, []), (42, .getfield 13, 3, 8, 0, []), (45, .if_icmp .lt (7), 1, 0, 0, []), (48, .iconst 3, 0, 0, 0, []), (49, .goto (4), 2, 0, 0, [])])
def mk_b110_1 : List Bool × List mj_I := ([false, false, false, false, false], [(52, .iconst 1, 0, 0, 0, []), (53, .nop, 2, 0, 0, [])])
def mk_b110_2 : List Bool × List mj_I := ([false, false, false, false, false], [(53, .iastore, 0, 0, 0, []), (54, .goto (85), 5, 0, 0, [])])
def mk_b110_3 : List Bool × List mj_I := ([true, true, true, true, true], [(57, .aload_n 0, 0, 0, 0, []), (58, .getfield 7, 1, 8, 0, []), (61, .iconst 3, 0, 0, 0, []), (62, .iload_n 1, 1, 0, 0, []), (63, .imul, 0, 0, 0, []), (64, .iaload, 0, 0, 0, []), (65, .aload_n 0, 0, 0, 0, []), (66, .iload_n 2, 2, 0, 0, []), (67, .invokevirtual 225, 103, 2, 1, []), (70, .ishr, 0, 0, 0, []), (71, .iconst 1, 0, 0, 0, []), (72, .iand, 0, 0, 0, []), (73, .ifCond .ne (17), 4, 0, 0, []), (76, .aload_n 0, 0, 0, 0, []), (77, .getfield 77, 43, 8, 0, []), (80, .iload_n 2, 2, 0, 0, []), (81, .aload_n 0, 0, 0, 0, []), (82, .iload_n 2, 2, 0, 0, []), (83, .invokevirtual 225, 103, 2, 1, []), (86, .iastore, 0, 0, 0, []), (87, .goto (52), 5, 0, 0, [])])
def mk_b110_4 : List Bool × List mj_I := ([true, true, true, true, true], [(90, .aload_n 0, 0, 0, 0, []), (91, .getfield 74, 42, 8, 0, []), (94, .iload_n 2, 2, 0, 0, []), (95, .iconst 2, 0, 0, 0, []), (96, .iastore, 0, 0, 0, []), (97, .aload_n 0, 0, 0, 0, []), (98, .getfield 80, 44, 8, 0, []), (101, .iload_n 2, 2, 0, 0, []), (102, .iload_n 3, 3, 0, 0, []), (103, .iastore, 0, 0, 0, []), (104, .aload_n 0, 0, 0, 0, []), (105, .getfield 83, 45, 8, 0, []), (108, .iload_n 2, 2, 0, 0, []), (109, .iload_n 3, 3, 0, 0, []), (110, .aload_n 0, 0, 0, 0, []), (111, .iload_n 2, 2, 0, 0, []), (112, .iload_n 1, 1, 0, 0, []), (113, .iload 4, 4, 0, 0, []), (115, .invokevirtual 235, 105, 4, 1, []), (118, .iadd, 0, 0, 0, []), (119, .iastore, 0, 0, 0, []), (120, .aload_n 0, 0, 0, 0, []), (121, .getfield 86, 46, 8, 0, []), (124, .iload_n 2, 2, 0, 0, []), (125, .iload_n 1, 1, 0, 0, []), (126, .iastore, 0, 0, 0, []), (127, .aload_n 0, 0, 0, 0, []), (128, .getfield 92, 48, 8, 0, []), (131, .iload_n 1, 1, 0, 0, []), (132, .aload_n 0, 0, 0, 0, []), (133, .getfield 83, 45, 8, 0, []), (136, .iload_n 2, 2, 0, 0, []), (137, .iaload, 0, 0, 0, []), (138, .iastore, 0, 0, 0, []), (139, .nop, 5, 0, 0, [])])
def mk_b110_5 : List Bool × List mj_I := ([false, false, false, false, false], [(139, .return_, 0, 0, 0, [])])
def mk_m110 : Nat × List (List Bool × List mj_I) := (5, [mk_b110_0, mk_b110_1, mk_b110_2, mk_b110_3, mk_b110_4, mk_b110_5])
/-- NumbersCalledModel.minute(I)V -/
def mk_b111_0 : List Bool × List mj_I := ([true, true, false, false, false, false], [(0, .iconst 0, 0, 0, 0, []), (1, .istore_n 2, 2, 0, 0, []), (2, .nop, 1, 0, 0, [])])
def mk_b111_1 : List Bool × List mj_I := ([true, true, true, false, false, false], [(2, .iload_n 2, 2, 0, 0, []), (3, .aload_n 0, 0, 0, 0, []), (4, .getfield 119, 5, 8, 0, []), (7, .if_icmp .ge (38), 5, 0, 0, []), (10, .aload_n 0, 0, 0, 0, []), (11, .getfield 32, 10, 8, 0, []), (14, .iload_n 2, 2, 0, 0, []), (15, .iaload, 0, 0, 0, []), (16, .iload_n 1, 1, 0, 0, []), (17, .if_icmp .ne (22), 4, 0, 0, []), (20, .aload_n 0, 0, 0, 0, []), (21, .getfield 74, 42, 8, 0, []), (24, .iload_n 2, 2, 0, 0, []), (25, .iload_n 1, 1, 0, 0, []), (26, .aload_n 0, 0, 0, 0, []), (27, .getfield 17, 4, 8, 0, []), (30, .if_icmp .lt (7), 2, 0, 0, []), (33, .iconst 4, 0, 0, 0, []), (34, .goto (4), 3, 0, 0, [])])
def mk_b111_2 : List Bool × List mj_I := ([true, true, true, false, false, false], [(37, .iconst 1, 0, 0, 0, []), (38, .nop, 3, 0, 0, [])])
def mk_b111_3 : List Bool × List mj_I := ([true, true, true, false, false, false], [(38, .iastore, 0, 0, 0, []), (39, .nop, 4, 0, 0, [])])
def mk_b111_4 : List Bool × List mj_I := ([true, true, true, false, false, false], [(39, .iinc 2 1, 2, 0, 0, []), (42, .goto (-40), 1, 0, 0, [])])
def mk_b111_5 : List Bool × List mj_I := ([true, true, false, false, false, false], [(45, .iconst 0, 0, 0, 0, []), (46, .istore_n 2, 2, 0, 0, []), (47, .nop, 6, 0, 0, [])])
def mk_b111_6 : List Bool × List mj_I := ([true, true, true, false, false, false], [(47, .iload_n 2, 2, 0, 0, []), (48, .aload_n 0, 0, 0, 0, []), (49, .getfield 112, 0, 8, 0, []), (52, .if_icmp .ge (93), 11, 0, 0, []), (55, .aload_n 0, 0, 0, 0, []), (56, .getfield 7, 1, 8, 0, []), (59, .iconst 3, 0, 0, 0, []), (60, .iload_n 2, 2, 0, 0, []), (61, .imul, 0, 0, 0, []), (62, .iconst 2, 0, 0, 0, []), (63, .iadd, 0, 0, 0, []), (64, .iaload, 0, 0, 0, []), (65, .istore_n 3, 3, 0, 0, []), (66, .iload_n 3, 3, 0, 0, []), (67, .iconst (-1), 0, 0, 0, []), (68, .if_icmp .eq (19), 7, 0, 0, []), (71, .iload_n 1, 1, 0, 0, []), (72, .iload_n 3, 3, 0, 0, []), (73, .iload_n 3, 3, 0, 0, []), (74, .bipush 9, 0, 0, 0, []), (76, .iadd, 0, 0, 0, []), (77, .invokestatic 115, 72, 3, 1, []), (80, .ifCond .eq (7), 7, 0, 0, []), (83, .iconst 1, 0, 0, 0, []), (84, .goto (4), 8, 0, 0, [])])
def mk_b111_7 : List Bool × List mj_I := ([true, true, true, false, false, false], [(87, .iconst 0, 0, 0, 0, []), (88, .nop, 8, 0, 0, [])])
def mk_b111_8 : List Bool × List mj_I := ([true, true, true, false, false, false], [(88, .istore 4, 4, 0, 0, []), (90, .aload_n 0, 0, 0, 0, []), (91, .getfield 92, 48, 8, 0, []), (94, .iload_n 2, 2, 0, 0, []), (95, .iaload, 0, 0, 0, []), (96, .iload_n 1, 1, 0, 0, []), (97, .if_icmp .gt (42), 10, 0, 0, []), (100, .iload 4, 4, 0, 0, []), (102, .ifCond .ne (37), 10, 0, 0, []), (105, .aload_n 0, 0, 0, 0, []), (106, .iload_n 2, 2, 0, 0, []), (107, .invokevirtual 244, 109, 2, 1, []), (110, .istore 5, 5, 0, 0, []), (112, .iload 5, 5, 0, 0, []), (114, .iconst (-1), 0, 0, 0, []), (115, .if_icmp .ne (16), 9, 0, 0, []), (118, .aload_n 0, 0, 0, 0, []), (119, .getfield 95, 49, 8, 0, []), (122, .iload_n 2, 2, 0, 0, []), (123, .dup2, 0, 0, 0, []), (124, .iaload, 0, 0, 0, []), (125, .iconst 1, 0, 0, 0, []), (126, .iadd, 0, 0, 0, []), (127, .iastore, 0, 0, 0, []), (128, .goto (11), 10, 0, 0, [])])
def mk_b111_9 : List Bool × List mj_I := ([true, true, true, false, false, true], [(131, .aload_n 0, 0, 0, 0, []), (132, .iload_n 2, 2, 0, 0, []), (133, .iload 5, 5, 0, 0, []), (135, .iload_n 1, 1, 0, 0, []), (136, .invokevirtual 247, 110, 4, 0, []), (139, .nop, 10, 0, 0, [])])
def mk_b111_10 : List Bool × List mj_I := ([true, true, true, false, false, false], [(139, .iinc 2 1, 2, 0, 0, []), (142, .goto (-95), 6, 0, 0, [])])
def mk_b111_11 : List Bool × List mj_I := ([false, false, false, false, false, false], [(145, .return_, 0, 0, 0, [])])
def mk_m111 : Nat × List (List Bool × List mj_I) := (6, [mk_b111_0, mk_b111_1, mk_b111_2, mk_b111_3, mk_b111_4, mk_b111_5, mk_b111_6, mk_b111_7, mk_b111_8, mk_b111_9, mk_b111_10, mk_b111_11])
/-- NumbersCalledModel.lives()V -/
def mk_b112_0 : List Bool × List mj_I := ([true, false], [(0, .iconst 0, 0, 0, 0, []), (1, .istore_n 1, 1, 0, 0, []), (2, .nop, 1, 0, 0, [])])
def mk_b112_1 : List Bool × List mj_I := ([true, true], [(2, .iload_n 1, 1, 0, 0, []), (3, .aload_n 0, 0, 0, 0, []), (4, .getfield 119, 5, 8, 0, []), (7, .if_icmp .ge (71), 4, 0, 0, []), (10, .aload_n 0, 0, 0, 0, []), (11, .getfield 74, 42, 8, 0, []), (14, .iload_n 1, 1, 0, 0, []), (15, .iconst 0, 0, 0, 0, []), (16, .iastore, 0, 0, 0, []), (17, .aload_n 0, 0, 0, 0, []), (18, .getfield 77, 43, 8, 0, []), (21, .iload_n 1, 1, 0, 0, []), (22, .aload_n 0, 0, 0, 0, []), (23, .getfield 250, 50, 8, 1, []), (26, .ifCond .eq (11), 2, 0, 0, []), (29, .aload_n 0, 0, 0, 0, []), (30, .iload_n 1, 1, 0, 0, []), (31, .invokevirtual 225, 103, 2, 1, []), (34, .goto (9), 3, 0, 0, [])])
def mk_b112_2 : List Bool × List mj_I := ([true, true], [(37, .aload_n 0, 0, 0, 0, []), (38, .getfield 23, 7, 8, 0, []), (41, .iload_n 1, 1, 0, 0, []), (42, .iaload, 0, 0, 0, []), (43, .nop, 3, 0, 0, [])])
def mk_b112_3 : List Bool × List mj_I := ([true, true], [(43, .iastore, 0, 0, 0, []), (44, .aload_n 0, 0, 0, 0, []), (45, .getfield 80, 44, 8, 0, []), (48, .iload_n 1, 1, 0, 0, []), (49, .iconst (-1), 0, 0, 0, []), (50, .iastore, 0, 0, 0, []), (51, .aload_n 0, 0, 0, 0, []), (52, .getfield 83, 45, 8, 0, []), (55, .iload_n 1, 1, 0, 0, []), (56, .iconst (-1), 0, 0, 0, []), (57, .iastore, 0, 0, 0, []), (58, .aload_n 0, 0, 0, 0, []), (59, .getfield 86, 46, 8, 0, []), (62, .iload_n 1, 1, 0, 0, []), (63, .iconst (-1), 0, 0, 0, []), (64, .iastore, 0, 0, 0, []), (65, .aload_n 0, 0, 0, 0, []), (66, .getfield 89, 47, 8, 0, []), (69, .iload_n 1, 1, 0, 0, []), (70, .iconst 0, 0, 0, 0, []), (71, .iastore, 0, 0, 0, []), (72, .iinc 1 1, 1, 0, 0, []), (75, .goto (-73), 1, 0, 0, [])])
def mk_b112_4 : List Bool × List mj_I := ([true, false], [(78, .iconst 0, 0, 0, 0, []), (79, .istore_n 1, 1, 0, 0, []), (80, .nop, 5, 0, 0, [])])
def mk_b112_5 : List Bool × List mj_I := ([true, true], [(80, .iload_n 1, 1, 0, 0, []), (81, .iconst 4, 0, 0, 0, []), (82, .if_icmp .ge (23), 6, 0, 0, []), (85, .aload_n 0, 0, 0, 0, []), (86, .getfield 92, 48, 8, 0, []), (89, .iload_n 1, 1, 0, 0, []), (90, .iconst 0, 0, 0, 0, []), (91, .iastore, 0, 0, 0, []), (92, .aload_n 0, 0, 0, 0, []), (93, .getfield 95, 49, 8, 0, []), (96, .iload_n 1, 1, 0, 0, []), (97, .iconst 0, 0, 0, 0, []), (98, .iastore, 0, 0, 0, []), (99, .iinc 1 1, 1, 0, 0, []), (102, .goto (-22), 5, 0, 0, [])])
def mk_b112_6 : List Bool × List mj_I := ([true, false], [(105, .iconst 0, 0, 0, 0, []), (106, .istore_n 1, 1, 0, 0, []), (107, .nop, 7, 0, 0, [])])
def mk_b112_7 : List Bool × List mj_I := ([true, true], [(107, .iload_n 1, 1, 0, 0, []), (108, .sipush 240, 0, 0, 0, []), (111, .if_icmp .ge (14), 8, 0, 0, []), (114, .aload_n 0, 0, 0, 0, []), (115, .iload_n 1, 1, 0, 0, []), (116, .invokevirtual 253, 111, 2, 0, []), (119, .iinc 1 1, 1, 0, 0, []), (122, .goto (-15), 7, 0, 0, [])])
def mk_b112_8 : List Bool × List mj_I := ([false, false], [(125, .return_, 0, 0, 0, [])])
def mk_m112 : Nat × List (List Bool × List mj_I) := (2, [mk_b112_0, mk_b112_1, mk_b112_2, mk_b112_3, mk_b112_4, mk_b112_5, mk_b112_6, mk_b112_7, mk_b112_8])
/-- NumbersCalledModel.waitOf(I)I -/
def mk_b113_0 : List Bool × List mj_I := ([true, true], [(0, .aload_n 0, 0, 0, 0, []), (1, .getfield 74, 42, 8, 0, []), (4, .iload_n 1, 1, 0, 0, []), (5, .iaload, 0, 0, 0, []), (6, .iconst 2, 0, 0, 0, []), (7, .if_icmp .ne (19), 1, 0, 0, []), (10, .aload_n 0, 0, 0, 0, []), (11, .getfield 80, 44, 8, 0, []), (14, .iload_n 1, 1, 0, 0, []), (15, .iaload, 0, 0, 0, []), (16, .aload_n 0, 0, 0, 0, []), (17, .getfield 32, 10, 8, 0, []), (20, .iload_n 1, 1, 0, 0, []), (21, .iaload, 0, 0, 0, []), (22, .isub, 0, 0, 0, []), (23, .goto (4), 2, 0, 0, [])])
def mk_b113_1 : List Bool × List mj_I := ([false, false], [(26, .iconst (-1), 0, 0, 0, []), (27, .nop, 2, 0, 0, [])])
def mk_b113_2 : List Bool × List mj_I := ([false, false], [(27, .ireturn, 0, 0, 0, [])])
def mk_m113 : Nat × List (List Bool × List mj_I) := (2, [mk_b113_0, mk_b113_1, mk_b113_2])
/-- NumbersCalledModel.of(II)I -/
def mk_b114_0 : List Bool × List mj_I := ([true, true, true], [(0, .aload_n 0, 0, 0, 0, []), (1, .iload_n 1, 1, 0, 0, []), (2, .invokevirtual 215, 75, 2, 1, []), (5, .ifCond .ne (6), 1, 0, 0, []), (8, .bipush (-5), 0, 0, 0, []), (10, .ireturn, 0, 0, 0, [])])
def mk_b114_1 : List Bool × List mj_I := ([true, true, true], [(11, .iload_n 2, 2, 0, 0, []), (12, .iconst 0, 0, 0, 0, []), (13, .iconst 5, 0, 0, 0, []), (14, .invokestatic 115, 72, 3, 1, []), (17, .ifCond .ne (6), 2, 0, 0, []), (20, .bipush (-7), 0, 0, 0, []), (22, .ireturn, 0, 0, 0, [])])
def mk_b114_2 : List Bool × List mj_I := ([true, true, true], [(23, .aload_n 0, 0, 0, 0, []), (24, .invokevirtual 256, 112, 1, 0, []), (27, .iload_n 2, 2, 0, 0, []), (28, .tableswitch (70) 0 4 #[36, 43, 50, 57, 64], 8, 0, 0, [(0, 3), (1, 4), (2, 5), (3, 6), (4, 7)])])
def mk_b114_3 : List Bool × List mj_I := ([true, true, false], [(64, .aload_n 0, 0, 0, 0, []), (65, .getfield 74, 42, 8, 0, []), (68, .iload_n 1, 1, 0, 0, []), (69, .iaload, 0, 0, 0, []), (70, .ireturn, 0, 0, 0, [])])
def mk_b114_4 : List Bool × List mj_I := ([true, true, false], [(71, .aload_n 0, 0, 0, 0, []), (72, .getfield 80, 44, 8, 0, []), (75, .iload_n 1, 1, 0, 0, []), (76, .iaload, 0, 0, 0, []), (77, .ireturn, 0, 0, 0, [])])
def mk_b114_5 : List Bool × List mj_I := ([true, true, false], [(78, .aload_n 0, 0, 0, 0, []), (79, .getfield 83, 45, 8, 0, []), (82, .iload_n 1, 1, 0, 0, []), (83, .iaload, 0, 0, 0, []), (84, .ireturn, 0, 0, 0, [])])
def mk_b114_6 : List Bool × List mj_I := ([true, true, false], [(85, .aload_n 0, 0, 0, 0, []), (86, .getfield 86, 46, 8, 0, []), (89, .iload_n 1, 1, 0, 0, []), (90, .iaload, 0, 0, 0, []), (91, .ireturn, 0, 0, 0, [])])
def mk_b114_7 : List Bool × List mj_I := ([true, true, false], [(92, .aload_n 0, 0, 0, 0, []), (93, .iload_n 1, 1, 0, 0, []), (94, .invokevirtual 259, 113, 2, 1, []), (97, .ireturn, 0, 0, 0, [])])
def mk_b114_8 : List Bool × List mj_I := ([true, true, false], [(98, .aload_n 0, 0, 0, 0, []), (99, .getfield 89, 47, 8, 0, []), (102, .iload_n 1, 1, 0, 0, []), (103, .iaload, 0, 0, 0, []), (104, .ireturn, 0, 0, 0, [])])
def mk_m114 : Nat × List (List Bool × List mj_I) := (3, [mk_b114_0, mk_b114_1, mk_b114_2, mk_b114_3, mk_b114_4, mk_b114_5, mk_b114_6, mk_b114_7, mk_b114_8])
/-- NumbersCalledModel.manyIn(I)I -/
def mk_b115_0 : List Bool × List mj_I := ([true, true, false, false], [(0, .iconst 0, 0, 0, 0, []), (1, .istore_n 2, 2, 0, 0, []), (2, .iconst 0, 0, 0, 0, []), (3, .istore_n 3, 3, 0, 0, []), (4, .nop, 1, 0, 0, [])])
def mk_b115_1 : List Bool × List mj_I := ([true, true, true, true], [(4, .iload_n 3, 3, 0, 0, []), (5, .aload_n 0, 0, 0, 0, []), (6, .getfield 119, 5, 8, 0, []), (9, .if_icmp .ge (27), 4, 0, 0, []), (12, .iload_n 2, 2, 0, 0, []), (13, .aload_n 0, 0, 0, 0, []), (14, .getfield 74, 42, 8, 0, []), (17, .iload_n 3, 3, 0, 0, []), (18, .iaload, 0, 0, 0, []), (19, .iload_n 1, 1, 0, 0, []), (20, .if_icmp .ne (7), 2, 0, 0, []), (23, .iconst 1, 0, 0, 0, []), (24, .goto (4), 3, 0, 0, [])])
def mk_b115_2 : List Bool × List mj_I := ([true, true, false, true], [(27, .iconst 0, 0, 0, 0, []), (28, .nop, 3, 0, 0, [])])
def mk_b115_3 : List Bool × List mj_I := ([true, true, false, true], [(28, .iadd, 0, 0, 0, []), (29, .istore_n 2, 2, 0, 0, []), (30, .iinc 3 1, 3, 0, 0, []), (33, .goto (-29), 1, 0, 0, [])])
def mk_b115_4 : List Bool × List mj_I := ([false, false, true, false], [(36, .iload_n 2, 2, 0, 0, []), (37, .ireturn, 0, 0, 0, [])])
def mk_m115 : Nat × List (List Bool × List mj_I) := (4, [mk_b115_0, mk_b115_1, mk_b115_2, mk_b115_3, mk_b115_4])
/-- NumbersCalledModel.longest()I -/
def mk_b116_0 : List Bool × List mj_I := ([true, false, false], [(0, .iconst 0, 0, 0, 0, []), (1, .istore_n 1, 1, 0, 0, []), (2, .iconst 0, 0, 0, 0, []), (3, .istore_n 2, 2, 0, 0, []), (4, .nop, 1, 0, 0, [])])
def mk_b116_1 : List Bool × List mj_I := ([true, true, true], [(4, .iload_n 2, 2, 0, 0, []), (5, .aload_n 0, 0, 0, 0, []), (6, .getfield 119, 5, 8, 0, []), (9, .if_icmp .ge (28), 4, 0, 0, []), (12, .aload_n 0, 0, 0, 0, []), (13, .iload_n 2, 2, 0, 0, []), (14, .invokevirtual 259, 113, 2, 1, []), (17, .iload_n 1, 1, 0, 0, []), (18, .if_icmp .le (11), 2, 0, 0, []), (21, .aload_n 0, 0, 0, 0, []), (22, .iload_n 2, 2, 0, 0, []), (23, .invokevirtual 259, 113, 2, 1, []), (26, .goto (4), 3, 0, 0, [])])
def mk_b116_2 : List Bool × List mj_I := ([true, true, true], [(29, .iload_n 1, 1, 0, 0, []), (30, .nop, 3, 0, 0, [])])
def mk_b116_3 : List Bool × List mj_I := ([true, false, true], [(30, .istore_n 1, 1, 0, 0, []), (31, .iinc 2 1, 2, 0, 0, []), (34, .goto (-30), 1, 0, 0, [])])
def mk_b116_4 : List Bool × List mj_I := ([false, true, false], [(37, .iload_n 1, 1, 0, 0, []), (38, .ireturn, 0, 0, 0, [])])
def mk_m116 : Nat × List (List Bool × List mj_I) := (3, [mk_b116_0, mk_b116_1, mk_b116_2, mk_b116_3, mk_b116_4])
/-- NumbersCalledModel.latest()I -/
def mk_b117_0 : List Bool × List mj_I := ([true, false, false], [(0, .iconst 0, 0, 0, 0, []), (1, .istore_n 1, 1, 0, 0, []), (2, .iconst 0, 0, 0, 0, []), (3, .istore_n 2, 2, 0, 0, []), (4, .nop, 1, 0, 0, [])])
def mk_b117_1 : List Bool × List mj_I := ([true, true, true], [(4, .iload_n 2, 2, 0, 0, []), (5, .aload_n 0, 0, 0, 0, []), (6, .getfield 119, 5, 8, 0, []), (9, .if_icmp .ge (30), 4, 0, 0, []), (12, .aload_n 0, 0, 0, 0, []), (13, .getfield 83, 45, 8, 0, []), (16, .iload_n 2, 2, 0, 0, []), (17, .iaload, 0, 0, 0, []), (18, .iload_n 1, 1, 0, 0, []), (19, .if_icmp .le (12), 2, 0, 0, []), (22, .aload_n 0, 0, 0, 0, []), (23, .getfield 83, 45, 8, 0, []), (26, .iload_n 2, 2, 0, 0, []), (27, .iaload, 0, 0, 0, []), (28, .goto (4), 3, 0, 0, [])])
def mk_b117_2 : List Bool × List mj_I := ([true, true, true], [(31, .iload_n 1, 1, 0, 0, []), (32, .nop, 3, 0, 0, [])])
def mk_b117_3 : List Bool × List mj_I := ([true, false, true], [(32, .istore_n 1, 1, 0, 0, []), (33, .iinc 2 1, 2, 0, 0, []), (36, .goto (-32), 1, 0, 0, [])])
def mk_b117_4 : List Bool × List mj_I := ([false, true, false], [(39, .iload_n 1, 1, 0, 0, []), (40, .ireturn, 0, 0, 0, [])])
def mk_m117 : Nat × List (List Bool × List mj_I) := (3, [mk_b117_0, mk_b117_1, mk_b117_2, mk_b117_3, mk_b117_4])
/-- NumbersCalledModel.allWaits()I -/
def mk_b118_0 : List Bool × List mj_I := ([true, false, false], [(0, .iconst 0, 0, 0, 0, []), (1, .istore_n 1, 1, 0, 0, []), (2, .iconst 0, 0, 0, 0, []), (3, .istore_n 2, 2, 0, 0, []), (4, .nop, 1, 0, 0, [])])
def mk_b118_1 : List Bool × List mj_I := ([true, true, true], [(4, .iload_n 2, 2, 0, 0, []), (5, .aload_n 0, 0, 0, 0, []), (6, .getfield 119, 5, 8, 0, []), (9, .if_icmp .ge (31), 4, 0, 0, []), (12, .iload_n 1, 1, 0, 0, []), (13, .aload_n 0, 0, 0, 0, []), (14, .getfield 74, 42, 8, 0, []), (17, .iload_n 2, 2, 0, 0, []), (18, .iaload, 0, 0, 0, []), (19, .iconst 2, 0, 0, 0, []), (20, .if_icmp .ne (11), 2, 0, 0, []), (23, .aload_n 0, 0, 0, 0, []), (24, .iload_n 2, 2, 0, 0, []), (25, .invokevirtual 259, 113, 2, 1, []), (28, .goto (4), 3, 0, 0, [])])
def mk_b118_2 : List Bool × List mj_I := ([true, false, true], [(31, .iconst 0, 0, 0, 0, []), (32, .nop, 3, 0, 0, [])])
def mk_b118_3 : List Bool × List mj_I := ([true, false, true], [(32, .iadd, 0, 0, 0, []), (33, .istore_n 1, 1, 0, 0, []), (34, .iinc 2 1, 2, 0, 0, []), (37, .goto (-33), 1, 0, 0, [])])
def mk_b118_4 : List Bool × List mj_I := ([false, true, false], [(40, .iload_n 1, 1, 0, 0, []), (41, .ireturn, 0, 0, 0, [])])
def mk_m118 : Nat × List (List Bool × List mj_I) := (3, [mk_b118_0, mk_b118_1, mk_b118_2, mk_b118_3, mk_b118_4])
/-- NumbersCalledModel.sumOf(I)I -/
def mk_b119_0 : List Bool × List mj_I := ([true, true], [(0, .iload_n 1, 1, 0, 0, []), (1, .tableswitch (82) 0 6 #[43, 49, 54, 59, 64, 70, 76], 8, 0, 0, [(0, 1), (1, 2), (2, 3), (3, 4), (4, 5), (5, 6), (6, 7)])])
def mk_b119_1 : List Bool × List mj_I := ([true, false], [(44, .aload_n 0, 0, 0, 0, []), (45, .iconst 2, 0, 0, 0, []), (46, .invokevirtual 262, 115, 2, 1, []), (49, .ireturn, 0, 0, 0, [])])
def mk_b119_2 : List Bool × List mj_I := ([true, false], [(50, .aload_n 0, 0, 0, 0, []), (51, .invokevirtual 265, 118, 1, 1, []), (54, .ireturn, 0, 0, 0, [])])
def mk_b119_3 : List Bool × List mj_I := ([true, false], [(55, .aload_n 0, 0, 0, 0, []), (56, .invokevirtual 268, 116, 1, 1, []), (59, .ireturn, 0, 0, 0, [])])
def mk_b119_4 : List Bool × List mj_I := ([true, false], [(60, .aload_n 0, 0, 0, 0, []), (61, .invokevirtual 271, 117, 1, 1, []), (64, .ireturn, 0, 0, 0, [])])
def mk_b119_5 : List Bool × List mj_I := ([true, false], [(65, .aload_n 0, 0, 0, 0, []), (66, .iconst 3, 0, 0, 0, []), (67, .invokevirtual 262, 115, 2, 1, []), (70, .ireturn, 0, 0, 0, [])])
def mk_b119_6 : List Bool × List mj_I := ([true, false], [(71, .aload_n 0, 0, 0, 0, []), (72, .iconst 4, 0, 0, 0, []), (73, .invokevirtual 262, 115, 2, 1, []), (76, .ireturn, 0, 0, 0, [])])
def mk_b119_7 : List Bool × List mj_I := ([true, false], [(77, .aload_n 0, 0, 0, 0, []), (78, .iconst 1, 0, 0, 0, []), (79, .invokevirtual 262, 115, 2, 1, []), (82, .ireturn, 0, 0, 0, [])])
def mk_b119_8 : List Bool × List mj_I := ([true, false], [(83, .aload_n 0, 0, 0, 0, []), (84, .getfield 95, 49, 8, 0, []), (87, .iconst 0, 0, 0, 0, []), (88, .iaload, 0, 0, 0, []), (89, .aload_n 0, 0, 0, 0, []), (90, .getfield 95, 49, 8, 0, []), (93, .iconst 1, 0, 0, 0, []), (94, .iaload, 0, 0, 0, []), (95, .iadd, 0, 0, 0, []), (96, .aload_n 0, 0, 0, 0, []), (97, .getfield 95, 49, 8, 0, []), (100, .iconst 2, 0, 0, 0, []), (101, .iaload, 0, 0, 0, []), (102, .iadd, 0, 0, 0, []), (103, .aload_n 0, 0, 0, 0, []), (104, .getfield 95, 49, 8, 0, []), (107, .iconst 3, 0, 0, 0, []), (108, .iaload, 0, 0, 0, []), (109, .iadd, 0, 0, 0, []), (110, .ireturn, 0, 0, 0, [])])
def mk_m119 : Nat × List (List Bool × List mj_I) := (2, [mk_b119_0, mk_b119_1, mk_b119_2, mk_b119_3, mk_b119_4, mk_b119_5, mk_b119_6, mk_b119_7, mk_b119_8])
/-- NumbersCalledModel.sum(I)I -/
def mk_b120_0 : List Bool × List mj_I := ([true, true], [(0, .iload_n 1, 1, 0, 0, []), (1, .iconst 0, 0, 0, 0, []), (2, .bipush 7, 0, 0, 0, []), (4, .invokestatic 115, 72, 3, 1, []), (7, .ifCond .ne (6), 1, 0, 0, []), (10, .bipush (-2), 0, 0, 0, []), (12, .ireturn, 0, 0, 0, [])])
def mk_b120_1 : List Bool × List mj_I := ([true, true], [(13, .aload_n 0, 0, 0, 0, []), (14, .invokevirtual 256, 112, 1, 0, []), (17, .aload_n 0, 0, 0, 0, []), (18, .iload_n 1, 1, 0, 0, []), (19, .invokevirtual 274, 119, 2, 1, []), (22, .ireturn, 0, 0, 0, [])])
def mk_m120 : Nat × List (List Bool × List mj_I) := (2, [mk_b120_0, mk_b120_1])
/-- NumbersCalledModel.idle(I)I -/
def mk_b121_0 : List Bool × List mj_I := ([true, true], [(0, .aload_n 0, 0, 0, 0, []), (1, .iload_n 1, 1, 0, 0, []), (2, .invokevirtual 126, 74, 2, 1, []), (5, .ifCond .ne (6), 1, 0, 0, []), (8, .bipush (-5), 0, 0, 0, []), (10, .ireturn, 0, 0, 0, [])])
def mk_b121_1 : List Bool × List mj_I := ([true, true], [(11, .aload_n 0, 0, 0, 0, []), (12, .invokevirtual 256, 112, 1, 0, []), (15, .aload_n 0, 0, 0, 0, []), (16, .getfield 95, 49, 8, 0, []), (19, .iload_n 1, 1, 0, 0, []), (20, .iaload, 0, 0, 0, []), (21, .ireturn, 0, 0, 0, [])])
def mk_m121 : Nat × List (List Bool × List mj_I) := (2, [mk_b121_0, mk_b121_1])
/-- NumbersCalledModel.harmNow()I -/
def mk_b122_0 : List Bool × List mj_I := ([true], [(0, .aload_n 0, 0, 0, 0, []), (1, .invokevirtual 256, 112, 1, 0, []), (4, .aload_n 0, 0, 0, 0, []), (5, .invokevirtual 265, 118, 1, 1, []), (8, .bipush 60, 0, 0, 0, []), (10, .aload_n 0, 0, 0, 0, []), (11, .getfield 119, 5, 8, 0, []), (14, .aload_n 0, 0, 0, 0, []), (15, .iconst 2, 0, 0, 0, []), (16, .invokevirtual 262, 115, 2, 1, []), (19, .isub, 0, 0, 0, []), (20, .imul, 0, 0, 0, []), (21, .iadd, 0, 0, 0, []), (22, .ireturn, 0, 0, 0, [])])
def mk_m122 : Nat × List (List Bool × List mj_I) := (1, [mk_b122_0])
/-- NumbersCalledModel.harmed()I -/
def mk_b123_0 : List Bool × List mj_I := ([true], [(0, .aload_n 0, 0, 0, 0, []), (1, .invokevirtual 277, 122, 1, 1, []), (4, .ireturn, 0, 0, 0, [])])
def mk_m123 : Nat × List (List Bool × List mj_I) := (1, [mk_b123_0])
/-- NumbersCalledModel.letter(II)I -/
def mk_b124_0 : List Bool × List mj_I := ([true, true, true, false, false, false, false, false], [(0, .aload_n 0, 0, 0, 0, []), (1, .iload_n 1, 1, 0, 0, []), (2, .invokevirtual 126, 74, 2, 1, []), (5, .ifCond .ne (6), 1, 0, 0, []), (8, .bipush (-5), 0, 0, 0, []), (10, .ireturn, 0, 0, 0, [])])
def mk_b124_1 : List Bool × List mj_I := ([true, true, true, false, false, false, false, false], [(11, .iload_n 2, 2, 0, 0, []), (12, .iconst 0, 0, 0, 0, []), (13, .iconst 1, 0, 0, 0, []), (14, .invokestatic 115, 72, 3, 1, []), (17, .ifCond .ne (6), 2, 0, 0, []), (20, .bipush (-7), 0, 0, 0, []), (22, .ireturn, 0, 0, 0, [])])
def mk_b124_2 : List Bool × List mj_I := ([true, true, true, false, false, false, false, false], [(23, .aload_n 0, 0, 0, 0, []), (24, .getfield 7, 1, 8, 0, []), (27, .iconst 3, 0, 0, 0, []), (28, .iload_n 1, 1, 0, 0, []), (29, .imul, 0, 0, 0, []), (30, .iaload, 0, 0, 0, []), (31, .istore_n 3, 3, 0, 0, []), (32, .iconst (-1), 0, 0, 0, []), (33, .istore 4, 4, 0, 0, []), (35, .aload_n 0, 0, 0, 0, []), (36, .invokevirtual 277, 122, 1, 1, []), (39, .istore 5, 5, 0, 0, []), (41, .iconst 0, 0, 0, 0, []), (42, .istore 6, 6, 0, 0, []), (44, .nop, 3, 0, 0, [])])
def mk_b124_3 : List Bool × List mj_I := ([true, true, true, true, true, true, true, false], [(44, .iload 6, 6, 0, 0, []), (46, .iconst 4, 0, 0, 0, []), (47, .if_icmp .ge (61), 8, 0, 0, []), (50, .aload_n 0, 0, 0, 0, []), (51, .getfield 7, 1, 8, 0, []), (54, .iconst 3, 0, 0, 0, []), (55, .iload_n 1, 1, 0, 0, []), (56, .imul, 0, 0, 0, []), (57, .iload_n 3, 3, 0, 0, []), (58, .iconst 1, 0, 0, 0, []), (59, .iload 6, 6, 0, 0, []), (61, .ishl, 0, 0, 0, []), (62, .ior, 0, 0, 0, []), (63, .iastore, 0, 0, 0, []), (64, .aload_n 0, 0, 0, 0, []), (65, .invokevirtual 277, 122, 1, 1, []), (68, .istore 7, 7, 0, 0, []), (70, .iload 7, 7, 0, 0, []), (72, .iload 5, 5, 0, 0, []), (74, .if_icmp .ge (8), 4, 0, 0, []), (77, .iload 6, 6, 0, 0, []), (79, .goto (5), 5, 0, 0, [])])
def mk_b124_4 : List Bool × List mj_I := ([true, true, true, true, true, true, true, true], [(82, .iload 4, 4, 0, 0, []), (84, .nop, 5, 0, 0, [])])
def mk_b124_5 : List Bool × List mj_I := ([true, true, true, true, false, true, true, true], [(84, .istore 4, 4, 0, 0, []), (86, .iload 7, 7, 0, 0, []), (88, .iload 5, 5, 0, 0, []), (90, .if_icmp .ge (8), 6, 0, 0, []), (93, .iload 7, 7, 0, 0, []), (95, .goto (5), 7, 0, 0, [])])
def mk_b124_6 : List Bool × List mj_I := ([true, true, true, true, true, true, true, false], [(98, .iload 5, 5, 0, 0, []), (100, .nop, 7, 0, 0, [])])
def mk_b124_7 : List Bool × List mj_I := ([true, true, true, true, true, false, true, false], [(100, .istore 5, 5, 0, 0, []), (102, .iinc 6 1, 6, 0, 0, []), (105, .goto (-61), 3, 0, 0, [])])
def mk_b124_8 : List Bool × List mj_I := ([true, true, true, true, true, true, false, false], [(108, .aload_n 0, 0, 0, 0, []), (109, .getfield 7, 1, 8, 0, []), (112, .iconst 3, 0, 0, 0, []), (113, .iload_n 1, 1, 0, 0, []), (114, .imul, 0, 0, 0, []), (115, .iload_n 3, 3, 0, 0, []), (116, .iastore, 0, 0, 0, []), (117, .iload_n 2, 2, 0, 0, []), (118, .ifCond .ne (8), 9, 0, 0, []), (121, .iload 4, 4, 0, 0, []), (123, .goto (5), 10, 0, 0, [])])
def mk_b124_9 : List Bool × List mj_I := ([false, false, false, false, false, true, false, false], [(126, .iload 5, 5, 0, 0, []), (128, .nop, 10, 0, 0, [])])
def mk_b124_10 : List Bool × List mj_I := ([false, false, false, false, false, false, false, false], [(128, .ireturn, 0, 0, 0, [])])
def mk_m124 : Nat × List (List Bool × List mj_I) := (8, [mk_b124_0, mk_b124_1, mk_b124_2, mk_b124_3, mk_b124_4, mk_b124_5, mk_b124_6, mk_b124_7, mk_b124_8, mk_b124_9, mk_b124_10])
/-- NumbersCalledModel.isWell(I)Z -/
def mk_b125_0 : List Bool × List mj_I := ([true, true], [(0, .aload_n 0, 0, 0, 0, []), (1, .invokevirtual 256, 112, 1, 0, []), (4, .aload_n 0, 0, 0, 0, []), (5, .iconst 2, 0, 0, 0, []), (6, .invokevirtual 262, 115, 2, 1, []), (9, .aload_n 0, 0, 0, 0, []), (10, .getfield 119, 5, 8, 0, []), (13, .if_icmp .ne (15), 1, 0, 0, []), (16, .aload_n 0, 0, 0, 0, []), (17, .invokevirtual 268, 116, 1, 1, []), (20, .iload_n 1, 1, 0, 0, []), (21, .if_icmp .gt (7), 1, 0, 0, []), (24, .iconst 1, 0, 0, 0, []), (25, .goto (4), 2, 0, 0, [])])
def mk_b125_1 : List Bool × List mj_I := ([false, false], [(28, .iconst 0, 0, 0, 0, []), (29, .nop, 2, 0, 0, [])])
def mk_b125_2 : List Bool × List mj_I := ([false, false], [(29, .ireturn, 0, 0, 1, [])])
def mk_m125 : Nat × List (List Bool × List mj_I) := (2, [mk_b125_0, mk_b125_1, mk_b125_2])
/-- NumbersCalledModel.trains(IZ)I -/
def mk_b126_0 : List Bool × List mj_I := ([true, true, true, false, false, false, false, false, false], [(0, .iconst 0, 0, 0, 0, []), (1, .istore_n 3, 3, 0, 0, []), (2, .nop, 1, 0, 0, [])])
def mk_b126_1 : List Bool × List mj_I := ([true, true, true, true, false, false, false, false, false], [(2, .iload_n 3, 3, 0, 0, []), (3, .iconst 4, 0, 0, 0, []), (4, .aload_n 0, 0, 0, 0, []), (5, .getfield 112, 0, 8, 0, []), (8, .imul, 0, 0, 0, []), (9, .if_icmp .ge (202), 9, 0, 0, []), (12, .aload_n 0, 0, 0, 0, []), (13, .getfield 7, 1, 8, 0, []), (16, .iconst 3, 0, 0, 0, []), (17, .iload_n 3, 3, 0, 0, []), (18, .iconst 4, 0, 0, 0, []), (19, .idiv, 0, 0, 0, []), (20, .imul, 0, 0, 0, []), (21, .iaload, 0, 0, 0, []), (22, .istore 4, 4, 0, 0, []), (24, .aload_n 0, 0, 0, 0, []), (25, .getfield 7, 1, 8, 0, []), (28, .iconst 3, 0, 0, 0, []), (29, .iload_n 3, 3, 0, 0, []), (30, .iconst 4, 0, 0, 0, []), (31, .idiv, 0, 0, 0, []), (32, .imul, 0, 0, 0, []), (33, .iload 4, 4, 0, 0, []), (35, .iconst 1, 0, 0, 0, []), (36, .iload_n 3, 3, 0, 0, []), (37, .iconst 4, 0, 0, 0, []), (38, .irem, 0, 0, 0, []), (39, .ishl, 0, 0, 0, []), (40, .ior, 0, 0, 0, []), (41, .iastore, 0, 0, 0, []), (42, .bipush 10, 0, 0, 0, []), (44, .iload_n 3, 3, 0, 0, []), (45, .iconst 4, 0, 0, 0, []), (46, .idiv, 0, 0, 0, []), (47, .imul, 0, 0, 0, []), (48, .iload_n 3, 3, 0, 0, []), (49, .iconst 4, 0, 0, 0, []), (50, .irem, 0, 0, 0, []), (51, .iadd, 0, 0, 0, []), (52, .istore 5, 5, 0, 0, []), (54, .iload_n 2, 2, 0, 0, []), (55, .ifCond .ne (16), 2, 0, 0, []), (58, .aload_n 0, 0, 0, 0, []), (59, .iload_n 1, 1, 0, 0, []), (60, .invokevirtual 280, 125, 2, 1, []), (63, .ifCond .eq (8), 2, 0, 0, []), (66, .iload 5, 5, 0, 0, []), (68, .goto (4), 3, 0, 0, [])])
def mk_b126_2 : List Bool × List mj_I := ([true, true, true, true, true, true, false, false, false], [(71, .iconst (-1), 0, 0, 0, []), (72, .nop, 3, 0, 0, [])])
def mk_b126_3 : List Bool × List mj_I := ([true, true, true, true, true, true, false, false, false], [(72, .istore 6, 6, 0, 0, []), (74, .iload_n 3, 3, 0, 0, []), (75, .iconst 1, 0, 0, 0, []), (76, .iadd, 0, 0, 0, []), (77, .istore 7, 7, 0, 0, []), (79, .nop, 4, 0, 0, [])])
def mk_b126_4 : List Bool × List mj_I := ([true, true, true, true, true, true, true, true, false], [(79, .iload 7, 7, 0, 0, []), (81, .iconst 4, 0, 0, 0, []), (82, .aload_n 0, 0, 0, 0, []), (83, .getfield 112, 0, 8, 0, []), (86, .imul, 0, 0, 0, []), (87, .if_icmp .ge (97), 7, 0, 0, []), (90, .iload_n 2, 2, 0, 0, []), (91, .ifCond .eq (93), 7, 0, 0, []), (94, .iload 6, 6, 0, 0, []), (96, .iconst (-1), 0, 0, 0, []), (97, .if_icmp .ne (87), 7, 0, 0, []), (100, .aload_n 0, 0, 0, 0, []), (101, .getfield 7, 1, 8, 0, []), (104, .iconst 3, 0, 0, 0, []), (105, .iload 7, 7, 0, 0, []), (107, .iconst 4, 0, 0, 0, []), (108, .idiv, 0, 0, 0, []), (109, .imul, 0, 0, 0, []), (110, .iaload, 0, 0, 0, []), (111, .istore 8, 8, 0, 0, []), (113, .aload_n 0, 0, 0, 0, []), (114, .getfield 7, 1, 8, 0, []), (117, .iconst 3, 0, 0, 0, []), (118, .iload 7, 7, 0, 0, []), (120, .iconst 4, 0, 0, 0, []), (121, .idiv, 0, 0, 0, []), (122, .imul, 0, 0, 0, []), (123, .iload 8, 8, 0, 0, []), (125, .iconst 1, 0, 0, 0, []), (126, .iload 7, 7, 0, 0, []), (128, .iconst 4, 0, 0, 0, []), (129, .irem, 0, 0, 0, []), (130, .ishl, 0, 0, 0, []), (131, .ior, 0, 0, 0, []), (132, .iastore, 0, 0, 0, []), (133, .aload_n 0, 0, 0, 0, []), (134, .iload_n 1, 1, 0, 0, []), (135, .invokevirtual 280, 125, 2, 1, []), (138, .ifCond .eq (24), 5, 0, 0, []), (141, .bipush 100, 0, 0, 0, []), (143, .iload 5, 5, 0, 0, []), (145, .imul, 0, 0, 0, []), (146, .bipush 10, 0, 0, 0, []), (148, .iload 7, 7, 0, 0, []), (150, .iconst 4, 0, 0, 0, []), (151, .idiv, 0, 0, 0, []), (152, .imul, 0, 0, 0, []), (153, .iadd, 0, 0, 0, []), (154, .iload 7, 7, 0, 0, []), (156, .iconst 4, 0, 0, 0, []), (157, .irem, 0, 0, 0, []), (158, .iadd, 0, 0, 0, []), (159, .goto (4), 6, 0, 0, [])])
def mk_b126_5 : List Bool × List mj_I := ([true, true, true, true, true, true, false, true, true], [(162, .iconst (-1), 0, 0, 0, []), (163, .nop, 6, 0, 0, [])])
def mk_b126_6 : List Bool × List mj_I := ([true, true, true, true, true, true, false, true, true], [(163, .istore 6, 6, 0, 0, []), (165, .aload_n 0, 0, 0, 0, []), (166, .getfield 7, 1, 8, 0, []), (169, .iconst 3, 0, 0, 0, []), (170, .iload 7, 7, 0, 0, []), (172, .iconst 4, 0, 0, 0, []), (173, .idiv, 0, 0, 0, []), (174, .imul, 0, 0, 0, []), (175, .iload 8, 8, 0, 0, []), (177, .iastore, 0, 0, 0, []), (178, .iinc 7 1, 7, 0, 0, []), (181, .goto (-102), 4, 0, 0, [])])
def mk_b126_7 : List Bool × List mj_I := ([true, true, true, true, true, false, true, false, false], [(184, .aload_n 0, 0, 0, 0, []), (185, .getfield 7, 1, 8, 0, []), (188, .iconst 3, 0, 0, 0, []), (189, .iload_n 3, 3, 0, 0, []), (190, .iconst 4, 0, 0, 0, []), (191, .idiv, 0, 0, 0, []), (192, .imul, 0, 0, 0, []), (193, .iload 4, 4, 0, 0, []), (195, .iastore, 0, 0, 0, []), (196, .iload 6, 6, 0, 0, []), (198, .iconst (-1), 0, 0, 0, []), (199, .if_icmp .eq (6), 8, 0, 0, []), (202, .iload 6, 6, 0, 0, []), (204, .ireturn, 0, 0, 0, [])])
def mk_b126_8 : List Bool × List mj_I := ([true, true, true, true, false, false, false, false, false], [(205, .iinc 3 1, 3, 0, 0, []), (208, .goto (-206), 1, 0, 0, [])])
def mk_b126_9 : List Bool × List mj_I := ([false, false, false, false, false, false, false, false, false], [(211, .iconst (-1), 0, 0, 0, []), (212, .ireturn, 0, 0, 0, [])])
def mk_m126 : Nat × List (List Bool × List mj_I) := (9, [mk_b126_0, mk_b126_1, mk_b126_2, mk_b126_3, mk_b126_4, mk_b126_5, mk_b126_6, mk_b126_7, mk_b126_8, mk_b126_9])
/-- NumbersCalledModel.train(II)I -/
def mk_b127_0 : List Bool × List mj_I := ([true, true, true, false, false], [(0, .iload_n 1, 1, 0, 0, []), (1, .iconst 0, 0, 0, 0, []), (2, .sipush 999, 0, 0, 0, []), (5, .invokestatic 115, 72, 3, 1, []), (8, .ifCond .eq (12), 1, 0, 0, []), (11, .iload_n 2, 2, 0, 0, []), (12, .iconst 0, 0, 0, 0, []), (13, .iconst 1, 0, 0, 0, []), (14, .invokestatic 115, 72, 3, 1, []), (17, .ifCond .ne (6), 2, 0, 0, []), (20, .nop, 1, 0, 0, [])])
def mk_b127_1 : List Bool × List mj_I := ([false, false, false, false, false], [(20, .bipush (-2), 0, 0, 0, []), (22, .ireturn, 0, 0, 0, [])])
def mk_b127_2 : List Bool × List mj_I := ([true, true, true, false, false], [(23, .aload_n 0, 0, 0, 0, []), (24, .iload_n 1, 1, 0, 0, []), (25, .invokevirtual 280, 125, 2, 1, []), (28, .ifCond .eq (13), 5, 0, 0, []), (31, .iload_n 2, 2, 0, 0, []), (32, .ifCond .ne (7), 3, 0, 0, []), (35, .iconst 0, 0, 0, 0, []), (36, .goto (4), 4, 0, 0, [])])
def mk_b127_3 : List Bool × List mj_I := ([false, false, false, false, false], [(39, .iconst (-1), 0, 0, 0, []), (40, .nop, 4, 0, 0, [])])
def mk_b127_4 : List Bool × List mj_I := ([false, false, false, false, false], [(40, .ireturn, 0, 0, 0, [])])
def mk_b127_5 : List Bool × List mj_I := ([true, true, true, false, false], [(41, .aload_n 0, 0, 0, 0, []), (42, .iload_n 1, 1, 0, 0, []), (43, .iconst 0, 0, 0, 0, []), (44, .invokevirtual 283, 126, 3, 1, []), (47, .istore_n 3, 3, 0, 0, []), (48, .iload_n 3, 3, 0, 0, []), (49, .iconst (-1), 0, 0, 0, []), (50, .if_icmp .eq (13), 8, 0, 0, []), (53, .iload_n 2, 2, 0, 0, []), (54, .ifCond .ne (7), 6, 0, 0, []), (57, .iconst 1, 0, 0, 0, []), (58, .goto (4), 7, 0, 0, [])])
def mk_b127_6 : List Bool × List mj_I := ([false, false, false, true, false], [(61, .iload_n 3, 3, 0, 0, []), (62, .nop, 7, 0, 0, [])])
def mk_b127_7 : List Bool × List mj_I := ([false, false, false, false, false], [(62, .ireturn, 0, 0, 0, [])])
def mk_b127_8 : List Bool × List mj_I := ([true, true, true, false, false], [(63, .aload_n 0, 0, 0, 0, []), (64, .iload_n 1, 1, 0, 0, []), (65, .iconst 1, 0, 0, 0, []), (66, .invokevirtual 283, 126, 3, 1, []), (69, .istore 4, 4, 0, 0, []), (71, .iload_n 2, 2, 0, 0, []), (72, .iconst 1, 0, 0, 0, []), (73, .if_icmp .eq (9), 9, 0, 0, []), (76, .iload 4, 4, 0, 0, []), (78, .iconst (-1), 0, 0, 0, []), (79, .if_icmp .ne (8), 10, 0, 0, []), (82, .nop, 9, 0, 0, [])])
def mk_b127_9 : List Bool × List mj_I := ([false, false, false, false, true], [(82, .iload 4, 4, 0, 0, []), (84, .goto (4), 11, 0, 0, [])])
def mk_b127_10 : List Bool × List mj_I := ([false, false, false, false, false], [(87, .iconst 2, 0, 0, 0, []), (88, .nop, 11, 0, 0, [])])
def mk_b127_11 : List Bool × List mj_I := ([false, false, false, false, false], [(88, .ireturn, 0, 0, 0, [])])
def mk_m127 : Nat × List (List Bool × List mj_I) := (5, [mk_b127_0, mk_b127_1, mk_b127_2, mk_b127_3, mk_b127_4, mk_b127_5, mk_b127_6, mk_b127_7, mk_b127_8, mk_b127_9, mk_b127_10, mk_b127_11])
/-- NumbersCalledModel.rest(II)I -/
def mk_b128_0 : List Bool × List mj_I := ([true, true, true, false, false, false, false, false], [(0, .aload_n 0, 0, 0, 0, []), (1, .iload_n 1, 1, 0, 0, []), (2, .invokevirtual 126, 74, 2, 1, []), (5, .ifCond .ne (6), 1, 0, 0, []), (8, .bipush (-5), 0, 0, 0, []), (10, .ireturn, 0, 0, 0, [])])
def mk_b128_1 : List Bool × List mj_I := ([true, true, true, false, false, false, false, false], [(11, .iload_n 2, 2, 0, 0, []), (12, .iconst 0, 0, 0, 0, []), (13, .iconst 1, 0, 0, 0, []), (14, .invokestatic 115, 72, 3, 1, []), (17, .ifCond .ne (6), 2, 0, 0, []), (20, .bipush (-7), 0, 0, 0, []), (22, .ireturn, 0, 0, 0, [])])
def mk_b128_2 : List Bool × List mj_I := ([true, true, true, false, false, false, false, false], [(23, .aload_n 0, 0, 0, 0, []), (24, .getfield 7, 1, 8, 0, []), (27, .iconst 3, 0, 0, 0, []), (28, .iload_n 1, 1, 0, 0, []), (29, .imul, 0, 0, 0, []), (30, .iconst 2, 0, 0, 0, []), (31, .iadd, 0, 0, 0, []), (32, .iaload, 0, 0, 0, []), (33, .istore_n 3, 3, 0, 0, []), (34, .iconst 0, 0, 0, 0, []), (35, .istore 4, 4, 0, 0, []), (37, .iconst 0, 0, 0, 0, []), (38, .istore 5, 5, 0, 0, []), (40, .iconst 0, 0, 0, 0, []), (41, .istore 6, 6, 0, 0, []), (43, .nop, 3, 0, 0, [])])
def mk_b128_3 : List Bool × List mj_I := ([true, true, true, true, true, true, true, false], [(43, .iload 6, 6, 0, 0, []), (45, .bipush 110, 0, 0, 0, []), (47, .if_icmp .gt (69), 10, 0, 0, []), (50, .aload_n 0, 0, 0, 0, []), (51, .getfield 7, 1, 8, 0, []), (54, .iconst 3, 0, 0, 0, []), (55, .iload_n 1, 1, 0, 0, []), (56, .imul, 0, 0, 0, []), (57, .iconst 2, 0, 0, 0, []), (58, .iadd, 0, 0, 0, []), (59, .iload 6, 6, 0, 0, []), (61, .iastore, 0, 0, 0, []), (62, .aload_n 0, 0, 0, 0, []), (63, .invokevirtual 277, 122, 1, 1, []), (66, .istore 7, 7, 0, 0, []), (68, .iload 6, 6, 0, 0, []), (70, .ifCond .eq (10), 4, 0, 0, []), (73, .iload 7, 7, 0, 0, []), (75, .iload 5, 5, 0, 0, []), (77, .if_icmp .ge (8), 5, 0, 0, []), (80, .nop, 4, 0, 0, [])])
def mk_b128_4 : List Bool × List mj_I := ([true, true, true, true, false, true, true, true], [(80, .iload 6, 6, 0, 0, []), (82, .goto (5), 6, 0, 0, [])])
def mk_b128_5 : List Bool × List mj_I := ([true, true, true, true, true, true, true, true], [(85, .iload 4, 4, 0, 0, []), (87, .nop, 6, 0, 0, [])])
def mk_b128_6 : List Bool × List mj_I := ([true, true, true, true, false, true, true, true], [(87, .istore 4, 4, 0, 0, []), (89, .iload 6, 6, 0, 0, []), (91, .ifCond .eq (10), 7, 0, 0, []), (94, .iload 7, 7, 0, 0, []), (96, .iload 5, 5, 0, 0, []), (98, .if_icmp .ge (8), 8, 0, 0, []), (101, .nop, 7, 0, 0, [])])
def mk_b128_7 : List Bool × List mj_I := ([true, true, true, true, true, false, true, true], [(101, .iload 7, 7, 0, 0, []), (103, .goto (5), 9, 0, 0, [])])
def mk_b128_8 : List Bool × List mj_I := ([true, true, true, true, true, true, true, false], [(106, .iload 5, 5, 0, 0, []), (108, .nop, 9, 0, 0, [])])
def mk_b128_9 : List Bool × List mj_I := ([true, true, true, true, true, false, true, false], [(108, .istore 5, 5, 0, 0, []), (110, .iinc 6 10, 6, 0, 0, []), (113, .goto (-70), 3, 0, 0, [])])
def mk_b128_10 : List Bool × List mj_I := ([true, true, true, true, true, true, false, false], [(116, .aload_n 0, 0, 0, 0, []), (117, .getfield 7, 1, 8, 0, []), (120, .iconst 3, 0, 0, 0, []), (121, .iload_n 1, 1, 0, 0, []), (122, .imul, 0, 0, 0, []), (123, .iconst 2, 0, 0, 0, []), (124, .iadd, 0, 0, 0, []), (125, .iload_n 3, 3, 0, 0, []), (126, .iastore, 0, 0, 0, []), (127, .iload_n 2, 2, 0, 0, []), (128, .ifCond .ne (8), 11, 0, 0, []), (131, .iload 4, 4, 0, 0, []), (133, .goto (5), 12, 0, 0, [])])
def mk_b128_11 : List Bool × List mj_I := ([false, false, false, false, false, true, false, false], [(136, .iload 5, 5, 0, 0, []), (138, .nop, 12, 0, 0, [])])
def mk_b128_12 : List Bool × List mj_I := ([false, false, false, false, false, false, false, false], [(138, .ireturn, 0, 0, 0, [])])
def mk_m128 : Nat × List (List Bool × List mj_I) := (8, [mk_b128_0, mk_b128_1, mk_b128_2, mk_b128_3, mk_b128_4, mk_b128_5, mk_b128_6, mk_b128_7, mk_b128_8, mk_b128_9, mk_b128_10, mk_b128_11, mk_b128_12])
/-- NumbersCalledModel.stop(I)I -/
def mk_b129_0 : List Bool × List mj_I := ([true, true, false, false, false], [(0, .iload_n 1, 1, 0, 0, []), (1, .iconst 0, 0, 0, 0, []), (2, .sipush 999, 0, 0, 0, []), (5, .invokestatic 115, 72, 3, 1, []), (8, .ifCond .ne (6), 1, 0, 0, []), (11, .bipush (-2), 0, 0, 0, []), (13, .ireturn, 0, 0, 0, [])])
def mk_b129_1 : List Bool × List mj_I := ([true, true, false, false, false], [(14, .aload_n 0, 0, 0, 0, []), (15, .getfield 17, 4, 8, 0, []), (18, .istore_n 2, 2, 0, 0, []), (19, .iconst (-1), 0, 0, 0, []), (20, .istore_n 3, 3, 0, 0, []), (21, .bipush 120, 0, 0, 0, []), (23, .istore 4, 4, 0, 0, []), (25, .nop, 2, 0, 0, [])])
def mk_b129_2 : List Bool × List mj_I := ([true, true, true, true, true], [(25, .iload 4, 4, 0, 0, []), (27, .ifCond .lt (47), 5, 0, 0, []), (30, .iload_n 3, 3, 0, 0, []), (31, .iconst (-1), 0, 0, 0, []), (32, .if_icmp .ne (42), 5, 0, 0, []), (35, .aload_n 0, 0, 0, 0, []), (36, .iload 4, 4, 0, 0, []), (38, .putfield 17, 4, 8, 0, []), (41, .aload_n 0, 0, 0, 0, []), (42, .invokevirtual 256, 112, 1, 0, []), (45, .aload_n 0, 0, 0, 0, []), (46, .invokevirtual 271, 117, 1, 1, []), (49, .iload_n 1, 1, 0, 0, []), (50, .if_icmp .gt (16), 3, 0, 0, []), (53, .aload_n 0, 0, 0, 0, []), (54, .iconst 1, 0, 0, 0, []), (55, .invokevirtual 262, 115, 2, 1, []), (58, .ifCond .ne (8), 3, 0, 0, []), (61, .iload 4, 4, 0, 0, []), (63, .goto (4), 4, 0, 0, [])])
def mk_b129_3 : List Bool × List mj_I := ([true, true, true, false, true], [(66, .iconst (-1), 0, 0, 0, []), (67, .nop, 4, 0, 0, [])])
def mk_b129_4 : List Bool × List mj_I := ([true, true, true, false, true], [(67, .istore_n 3, 3, 0, 0, []), (68, .iinc 4 (-1), 4, 0, 0, []), (71, .goto (-46), 2, 0, 0, [])])
def mk_b129_5 : List Bool × List mj_I := ([true, false, true, true, false], [(74, .aload_n 0, 0, 0, 0, []), (75, .iload_n 2, 2, 0, 0, []), (76, .putfield 17, 4, 8, 0, []), (79, .iload_n 3, 3, 0, 0, []), (80, .ireturn, 0, 0, 0, [])])
def mk_m129 : Nat × List (List Bool × List mj_I) := (5, [mk_b129_0, mk_b129_1, mk_b129_2, mk_b129_3, mk_b129_4, mk_b129_5])
/-- NumbersCalledModel.call(I)I -/
def mk_b130_0 : List Bool × List mj_I := ([true, true, false, false, false, false, false], [(0, .iload_n 1, 1, 0, 0, []), (1, .iconst 0, 0, 0, 0, []), (2, .iconst 1, 0, 0, 0, []), (3, .invokestatic 115, 72, 3, 1, []), (6, .ifCond .ne (6), 1, 0, 0, []), (9, .bipush (-2), 0, 0, 0, []), (11, .ireturn, 0, 0, 0, [])])
def mk_b130_1 : List Bool × List mj_I := ([true, true, false, false, false, false, false], [(12, .aload_n 0, 0, 0, 0, []), (13, .getfield 13, 3, 8, 0, []), (16, .istore_n 2, 2, 0, 0, []), (17, .iconst 0, 0, 0, 0, []), (18, .istore_n 3, 3, 0, 0, []), (19, .iconst 0, 0, 0, 0, []), (20, .istore 4, 4, 0, 0, []), (22, .iconst 1, 0, 0, 0, []), (23, .istore 5, 5, 0, 0, []), (25, .nop, 2, 0, 0, [])])
def mk_b130_2 : List Bool × List mj_I := ([true, true, true, true, true, true, false], [(25, .iload 5, 5, 0, 0, []), (27, .bipush 9, 0, 0, 0, []), (29, .if_icmp .gt (63), 9, 0, 0, []), (32, .aload_n 0, 0, 0, 0, []), (33, .iload 5, 5, 0, 0, []), (35, .putfield 13, 3, 8, 0, []), (38, .aload_n 0, 0, 0, 0, []), (39, .invokevirtual 277, 122, 1, 1, []), (42, .istore 6, 6, 0, 0, []), (44, .iload 5, 5, 0, 0, []), (46, .iconst 1, 0, 0, 0, []), (47, .if_icmp .eq (10), 3, 0, 0, []), (50, .iload 6, 6, 0, 0, []), (52, .iload 4, 4, 0, 0, []), (54, .if_icmp .ge (8), 4, 0, 0, []), (57, .nop, 3, 0, 0, [])])
def mk_b130_3 : List Bool × List mj_I := ([true, true, true, false, true, true, true], [(57, .iload 5, 5, 0, 0, []), (59, .goto (4), 5, 0, 0, [])])
def mk_b130_4 : List Bool × List mj_I := ([true, true, true, true, true, true, true], [(62, .iload_n 3, 3, 0, 0, []), (63, .nop, 5, 0, 0, [])])
def mk_b130_5 : List Bool × List mj_I := ([true, true, true, false, true, true, true], [(63, .istore_n 3, 3, 0, 0, []), (64, .iload 5, 5, 0, 0, []), (66, .iconst 1, 0, 0, 0, []), (67, .if_icmp .eq (10), 6, 0, 0, []), (70, .iload 6, 6, 0, 0, []), (72, .iload 4, 4, 0, 0, []), (74, .if_icmp .ge (8), 7, 0, 0, []), (77, .nop, 6, 0, 0, [])])
def mk_b130_6 : List Bool × List mj_I := ([true, true, true, true, false, true, true], [(77, .iload 6, 6, 0, 0, []), (79, .goto (5), 8, 0, 0, [])])
def mk_b130_7 : List Bool × List mj_I := ([true, true, true, true, true, true, false], [(82, .iload 4, 4, 0, 0, []), (84, .nop, 8, 0, 0, [])])
def mk_b130_8 : List Bool × List mj_I := ([true, true, true, true, false, true, false], [(84, .istore 4, 4, 0, 0, []), (86, .iinc 5 1, 5, 0, 0, []), (89, .goto (-64), 2, 0, 0, [])])
def mk_b130_9 : List Bool × List mj_I := ([true, true, true, true, true, false, false], [(92, .aload_n 0, 0, 0, 0, []), (93, .iload_n 2, 2, 0, 0, []), (94, .putfield 13, 3, 8, 0, []), (97, .iload_n 1, 1, 0, 0, []), (98, .ifCond .ne (7), 10, 0, 0, []), (101, .iload_n 3, 3, 0, 0, []), (102, .goto (5), 11, 0, 0, [])])
def mk_b130_10 : List Bool × List mj_I := ([false, false, false, false, true, false, false], [(105, .iload 4, 4, 0, 0, []), (107, .nop, 11, 0, 0, [])])
def mk_b130_11 : List Bool × List mj_I := ([false, false, false, false, false, false, false], [(107, .ireturn, 0, 0, 0, [])])
def mk_m130 : Nat × List (List Bool × List mj_I) := (7, [mk_b130_0, mk_b130_1, mk_b130_2, mk_b130_3, mk_b130_4, mk_b130_5, mk_b130_6, mk_b130_7, mk_b130_8, mk_b130_9, mk_b130_10, mk_b130_11])
/-- NumbersCalledModel.waitsBut(I)I -/
def mk_b131_0 : List Bool × List mj_I := ([true, true, false, false, false], [(0, .aload_n 0, 0, 0, 0, []), (1, .invokevirtual 256, 112, 1, 0, []), (4, .iconst 0, 0, 0, 0, []), (5, .istore_n 2, 2, 0, 0, []), (6, .iconst 0, 0, 0, 0, []), (7, .istore_n 3, 3, 0, 0, []), (8, .nop, 1, 0, 0, [])])
def mk_b131_1 : List Bool × List mj_I := ([true, true, true, true, false], [(8, .iload_n 3, 3, 0, 0, []), (9, .aload_n 0, 0, 0, 0, []), (10, .getfield 119, 5, 8, 0, []), (13, .if_icmp .ge (78), 8, 0, 0, []), (16, .iload_n 1, 1, 0, 0, []), (17, .iconst 2, 0, 0, 0, []), (18, .if_icmp .eq (33), 3, 0, 0, []), (21, .iload_n 1, 1, 0, 0, []), (22, .iconst 1, 0, 0, 0, []), (23, .if_icmp .ne (13), 2, 0, 0, []), (26, .aload_n 0, 0, 0, 0, []), (27, .getfield 20, 6, 8, 0, []), (30, .iload_n 3, 3, 0, 0, []), (31, .iaload, 0, 0, 0, []), (32, .iconst 4, 0, 0, 0, []), (33, .if_icmp .ne (18), 3, 0, 0, []), (36, .nop, 2, 0, 0, [])])
def mk_b131_2 : List Bool × List mj_I := ([true, true, true, true, false], [(36, .iload_n 1, 1, 0, 0, []), (37, .iconst 3, 0, 0, 0, []), (38, .if_icmp .ne (17), 4, 0, 0, []), (41, .aload_n 0, 0, 0, 0, []), (42, .getfield 20, 6, 8, 0, []), (45, .iload_n 3, 3, 0, 0, []), (46, .iaload, 0, 0, 0, []), (47, .iconst 3, 0, 0, 0, []), (48, .if_icmp .eq (7), 4, 0, 0, []), (51, .nop, 3, 0, 0, [])])
def mk_b131_3 : List Bool × List mj_I := ([true, true, true, true, false], [(51, .iconst 1, 0, 0, 0, []), (52, .goto (4), 5, 0, 0, [])])
def mk_b131_4 : List Bool × List mj_I := ([true, true, true, true, false], [(55, .iconst 0, 0, 0, 0, []), (56, .nop, 5, 0, 0, [])])
def mk_b131_5 : List Bool × List mj_I := ([true, true, true, true, false], [(56, .istore 4, 4, 0, 0, []), (58, .iload_n 2, 2, 0, 0, []), (59, .iload 4, 4, 0, 0, []), (61, .ifCond .eq (21), 6, 0, 0, []), (64, .aload_n 0, 0, 0, 0, []), (65, .getfield 74, 42, 8, 0, []), (68, .iload_n 3, 3, 0, 0, []), (69, .iaload, 0, 0, 0, []), (70, .iconst 2, 0, 0, 0, []), (71, .if_icmp .ne (11), 6, 0, 0, []), (74, .aload_n 0, 0, 0, 0, []), (75, .iload_n 3, 3, 0, 0, []), (76, .invokevirtual 259, 113, 2, 1, []), (79, .goto (4), 7, 0, 0, [])])
def mk_b131_6 : List Bool × List mj_I := ([true, true, false, true, false], [(82, .iconst 0, 0, 0, 0, []), (83, .nop, 7, 0, 0, [])])
def mk_b131_7 : List Bool × List mj_I := ([true, true, false, true, false], [(83, .iadd, 0, 0, 0, []), (84, .istore_n 2, 2, 0, 0, []), (85, .iinc 3 1, 3, 0, 0, []), (88, .goto (-80), 1, 0, 0, [])])
def mk_b131_8 : List Bool × List mj_I := ([false, false, true, false, false], [(91, .iload_n 2, 2, 0, 0, []), (92, .ireturn, 0, 0, 0, [])])
def mk_m131 : Nat × List (List Bool × List mj_I) := (5, [mk_b131_0, mk_b131_1, mk_b131_2, mk_b131_3, mk_b131_4, mk_b131_5, mk_b131_6, mk_b131_7, mk_b131_8])
/-- NumbersCalledModel.pay(I)I -/
def mk_b132_0 : List Bool × List mj_I := ([true, true, false, false, false], [(0, .iload_n 1, 1, 0, 0, []), (1, .iconst 1, 0, 0, 0, []), (2, .iconst 3, 0, 0, 0, []), (3, .invokestatic 115, 72, 3, 1, []), (6, .ifCond .ne (6), 1, 0, 0, []), (9, .bipush (-2), 0, 0, 0, []), (11, .ireturn, 0, 0, 0, [])])
def mk_b132_1 : List Bool × List mj_I := ([true, true, false, false, false], [(12, .aload_n 0, 0, 0, 0, []), (13, .getfield 134, 2, 8, 0, []), (16, .istore_n 2, 2, 0, 0, []), (17, .aload_n 0, 0, 0, 0, []), (18, .iload_n 1, 1, 0, 0, []), (19, .putfield 134, 2, 8, 0, []), (22, .aload_n 0, 0, 0, 0, []), (23, .iload_n 1, 1, 0, 0, []), (24, .invokevirtual 287, 131, 2, 1, []), (27, .istore_n 3, 3, 0, 0, []), (28, .aload_n 0, 0, 0, 0, []), (29, .iconst 0, 0, 0, 0, []), (30, .putfield 134, 2, 8, 0, []), (33, .aload_n 0, 0, 0, 0, []), (34, .iload_n 1, 1, 0, 0, []), (35, .invokevirtual 287, 131, 2, 1, []), (38, .istore 4, 4, 0, 0, []), (40, .aload_n 0, 0, 0, 0, []), (41, .iload_n 2, 2, 0, 0, []), (42, .putfield 134, 2, 8, 0, []), (45, .iload_n 3, 3, 0, 0, []), (46, .iload 4, 4, 0, 0, []), (48, .isub, 0, 0, 0, []), (49, .ireturn, 0, 0, 0, [])])
def mk_m132 : Nat × List (List Bool × List mj_I) := (5, [mk_b132_0, mk_b132_1])
/-- NumbersCalledModel.door(I)I -/
def mk_b133_0 : List Bool × List mj_I := ([true, true, false, false], [(0, .iload_n 1, 1, 0, 0, []), (1, .iconst 0, 0, 0, 0, []), (2, .iconst 1, 0, 0, 0, []), (3, .invokestatic 115, 72, 3, 1, []), (6, .ifCond .ne (6), 1, 0, 0, []), (9, .bipush (-2), 0, 0, 0, []), (11, .ireturn, 0, 0, 0, [])])
def mk_b133_1 : List Bool × List mj_I := ([true, true, false, false], [(12, .aload_n 0, 0, 0, 0, []), (13, .invokevirtual 277, 122, 1, 1, []), (16, .istore_n 2, 2, 0, 0, []), (17, .aload_n 0, 0, 0, 0, []), (18, .iload_n 1, 1, 0, 0, []), (19, .ifCond .ne (7), 2, 0, 0, []), (22, .iconst 1, 0, 0, 0, []), (23, .goto (4), 3, 0, 0, [])])
def mk_b133_2 : List Bool × List mj_I := ([true, true, true, false], [(26, .iconst 0, 0, 0, 0, []), (27, .nop, 3, 0, 0, [])])
def mk_b133_3 : List Bool × List mj_I := ([true, true, true, false], [(27, .putfield 232, 41, 8, 1, []), (30, .aload_n 0, 0, 0, 0, []), (31, .iload_n 1, 1, 0, 0, []), (32, .iconst 1, 0, 0, 0, []), (33, .if_icmp .ne (7), 4, 0, 0, []), (36, .iconst 1, 0, 0, 0, []), (37, .goto (4), 5, 0, 0, [])])
def mk_b133_4 : List Bool × List mj_I := ([true, false, true, false], [(40, .iconst 0, 0, 0, 0, []), (41, .nop, 5, 0, 0, [])])
def mk_b133_5 : List Bool × List mj_I := ([true, false, true, false], [(41, .putfield 250, 50, 8, 1, []), (44, .aload_n 0, 0, 0, 0, []), (45, .invokevirtual 277, 122, 1, 1, []), (48, .istore_n 3, 3, 0, 0, []), (49, .aload_n 0, 0, 0, 0, []), (50, .iconst 0, 0, 0, 0, []), (51, .putfield 232, 41, 8, 1, []), (54, .aload_n 0, 0, 0, 0, []), (55, .iconst 0, 0, 0, 0, []), (56, .putfield 250, 50, 8, 1, []), (59, .iload_n 2, 2, 0, 0, []), (60, .iload_n 3, 3, 0, 0, []), (61, .isub, 0, 0, 0, []), (62, .ireturn, 0, 0, 0, [])])
def mk_m133 : Nat × List (List Bool × List mj_I) := (4, [mk_b133_0, mk_b133_1, mk_b133_2, mk_b133_3, mk_b133_4, mk_b133_5])
/-- NumbersCalledModel.say(I)I -/
def mk_b134_0 : List Bool × List mj_I := ([true, true, false, false, false, false, false], [(0, .iload_n 1, 1, 0, 0, []), (1, .iconst 0, 0, 0, 0, []), (2, .iconst 1, 0, 0, 0, []), (3, .invokestatic 115, 72, 3, 1, []), (6, .ifCond .ne (6), 1, 0, 0, []), (9, .bipush (-2), 0, 0, 0, []), (11, .ireturn, 0, 0, 0, [])])
def mk_b134_1 : List Bool × List mj_I := ([true, true, false, false, false, false, false], [(12, .aload_n 0, 0, 0, 0, []), (13, .invokevirtual 256, 112, 1, 0, []), (16, .iconst 0, 0, 0, 0, []), (17, .istore_n 2, 2, 0, 0, []), (18, .iconst 0, 0, 0, 0, []), (19, .istore_n 3, 3, 0, 0, []), (20, .iconst 0, 0, 0, 0, []), (21, .istore 4, 4, 0, 0, []), (23, .nop, 2, 0, 0, [])])
def mk_b134_2 : List Bool × List mj_I := ([true, true, true, true, true, false, false], [(23, .iload 4, 4, 0, 0, []), (25, .bipush 60, 0, 0, 0, []), (27, .if_icmp .gt (102), 13, 0, 0, []), (30, .iconst 0, 0, 0, 0, []), (31, .istore 5, 5, 0, 0, []), (33, .iconst 0, 0, 0, 0, []), (34, .istore 6, 6, 0, 0, []), (36, .nop, 3, 0, 0, [])])
def mk_b134_3 : List Bool × List mj_I := ([true, true, true, true, true, true, true], [(36, .iload 6, 6, 0, 0, []), (38, .aload_n 0, 0, 0, 0, []), (39, .getfield 119, 5, 8, 0, []), (42, .if_icmp .ge (45), 6, 0, 0, []), (45, .iload 5, 5, 0, 0, []), (47, .aload_n 0, 0, 0, 0, []), (48, .getfield 74, 42, 8, 0, []), (51, .iload 6, 6, 0, 0, []), (53, .iaload, 0, 0, 0, []), (54, .iconst 2, 0, 0, 0, []), (55, .if_icmp .ne (22), 4, 0, 0, []), (58, .aload_n 0, 0, 0, 0, []), (59, .iconst 2, 0, 0, 0, []), (60, .iload 6, 6, 0, 0, []), (62, .iconst 0, 0, 0, 0, []), (63, .aload_n 0, 0, 0, 0, []), (64, .iload 6, 6, 0, 0, []), (66, .invokevirtual 259, 113, 2, 1, []), (69, .iload 4, 4, 0, 0, []), (71, .invokevirtual 228, 98, 6, 1, []), (74, .goto (4), 5, 0, 0, [])])
def mk_b134_4 : List Bool × List mj_I := ([true, true, true, true, true, false, true], [(77, .iconst 0, 0, 0, 0, []), (78, .nop, 5, 0, 0, [])])
def mk_b134_5 : List Bool × List mj_I := ([true, true, true, true, true, false, true], [(78, .iadd, 0, 0, 0, []), (79, .istore 5, 5, 0, 0, []), (81, .iinc 6 1, 6, 0, 0, []), (84, .goto (-48), 3, 0, 0, [])])
def mk_b134_6 : List Bool × List mj_I := ([true, true, true, true, true, true, false], [(87, .iload 4, 4, 0, 0, []), (89, .ifCond .eq (9), 7, 0, 0, []), (92, .iload 5, 5, 0, 0, []), (94, .iload_n 3, 3, 0, 0, []), (95, .if_icmp .ge (8), 8, 0, 0, []), (98, .nop, 7, 0, 0, [])])
def mk_b134_7 : List Bool × List mj_I := ([true, true, false, true, true, true, false], [(98, .iload 4, 4, 0, 0, []), (100, .goto (4), 9, 0, 0, [])])
def mk_b134_8 : List Bool × List mj_I := ([true, true, true, true, true, true, false], [(103, .iload_n 2, 2, 0, 0, []), (104, .nop, 9, 0, 0, [])])
def mk_b134_9 : List Bool × List mj_I := ([true, true, false, true, true, true, false], [(104, .istore_n 2, 2, 0, 0, []), (105, .iload 4, 4, 0, 0, []), (107, .ifCond .eq (9), 10, 0, 0, []), (110, .iload 5, 5, 0, 0, []), (112, .iload_n 3, 3, 0, 0, []), (113, .if_icmp .ge (8), 11, 0, 0, []), (116, .nop, 10, 0, 0, [])])
def mk_b134_10 : List Bool × List mj_I := ([true, true, true, false, true, true, false], [(116, .iload 5, 5, 0, 0, []), (118, .goto (4), 12, 0, 0, [])])
def mk_b134_11 : List Bool × List mj_I := ([true, true, true, true, true, false, false], [(121, .iload_n 3, 3, 0, 0, []), (122, .nop, 12, 0, 0, [])])
def mk_b134_12 : List Bool × List mj_I := ([true, true, true, false, true, false, false], [(122, .istore_n 3, 3, 0, 0, []), (123, .iinc 4 5, 4, 0, 0, []), (126, .goto (-103), 2, 0, 0, [])])
def mk_b134_13 : List Bool × List mj_I := ([false, true, true, true, false, false, false], [(129, .iload_n 1, 1, 0, 0, []), (130, .ifCond .ne (7), 14, 0, 0, []), (133, .iload_n 2, 2, 0, 0, []), (134, .goto (4), 15, 0, 0, [])])
def mk_b134_14 : List Bool × List mj_I := ([false, false, false, true, false, false, false], [(137, .iload_n 3, 3, 0, 0, []), (138, .nop, 15, 0, 0, [])])
def mk_b134_15 : List Bool × List mj_I := ([false, false, false, false, false, false, false], [(138, .ireturn, 0, 0, 0, [])])
def mk_m134 : Nat × List (List Bool × List mj_I) := (7, [mk_b134_0, mk_b134_1, mk_b134_2, mk_b134_3, mk_b134_4, mk_b134_5, mk_b134_6, mk_b134_7, mk_b134_8, mk_b134_9, mk_b134_10, mk_b134_11, mk_b134_12, mk_b134_13, mk_b134_14, mk_b134_15])
/-- NumbersCalledModel.badFor(I)I -/
def mk_b135_0 : List Bool × List mj_I := ([true, true], [(0, .aload_n 0, 0, 0, 0, []), (1, .invokevirtual 256, 112, 1, 0, []), (4, .aload_n 0, 0, 0, 0, []), (5, .getfield 74, 42, 8, 0, []), (8, .iload_n 1, 1, 0, 0, []), (9, .iaload, 0, 0, 0, []), (10, .iconst 2, 0, 0, 0, []), (11, .if_icmp .ne (11), 1, 0, 0, []), (14, .aload_n 0, 0, 0, 0, []), (15, .iload_n 1, 1, 0, 0, []), (16, .invokevirtual 259, 113, 2, 1, []), (19, .goto (5), 2, 0, 0, [])])
def mk_b135_1 : List Bool × List mj_I := ([false, false], [(22, .bipush 120, 0, 0, 0, []), (24, .nop, 2, 0, 0, [])])
def mk_b135_2 : List Bool × List mj_I := ([false, false], [(24, .ireturn, 0, 0, 0, [])])
def mk_m135 : Nat × List (List Bool × List mj_I) := (2, [mk_b135_0, mk_b135_1, mk_b135_2])
/-- NumbersCalledModel.bestFor(I)I -/
def mk_b136_0 : List Bool × List mj_I := ([true, true, false, false, false, false], [(0, .aload_n 0, 0, 0, 0, []), (1, .getfield 32, 10, 8, 0, []), (4, .iload_n 1, 1, 0, 0, []), (5, .iaload, 0, 0, 0, []), (6, .istore_n 2, 2, 0, 0, []), (7, .iconst 0, 0, 0, 0, []), (8, .istore_n 3, 3, 0, 0, []), (9, .iconst 0, 0, 0, 0, []), (10, .istore 4, 4, 0, 0, []), (12, .nop, 1, 0, 0, [])])
def mk_b136_1 : List Bool × List mj_I := ([true, true, true, true, true, false], [(12, .iload 4, 4, 0, 0, []), (14, .bipush 100, 0, 0, 0, []), (16, .if_icmp .gt (72), 8, 0, 0, []), (19, .aload_n 0, 0, 0, 0, []), (20, .getfield 32, 10, 8, 0, []), (23, .iload_n 1, 1, 0, 0, []), (24, .iload 4, 4, 0, 0, []), (26, .iastore, 0, 0, 0, []), (27, .aload_n 0, 0, 0, 0, []), (28, .iload_n 1, 1, 0, 0, []), (29, .invokevirtual 290, 135, 2, 1, []), (32, .istore 5, 5, 0, 0, []), (34, .iload 4, 4, 0, 0, []), (36, .ifCond .eq (12), 2, 0, 0, []), (39, .iload 5, 5, 0, 0, []), (41, .aload_n 0, 0, 0, 0, []), (42, .getfield 293, 51, 8, 0, []), (45, .if_icmp .ge (8), 3, 0, 0, []), (48, .nop, 2, 0, 0, [])])
def mk_b136_2 : List Bool × List mj_I := ([true, true, true, false, true, true], [(48, .iload 4, 4, 0, 0, []), (50, .goto (4), 4, 0, 0, [])])
def mk_b136_3 : List Bool × List mj_I := ([true, true, true, true, true, true], [(53, .iload_n 3, 3, 0, 0, []), (54, .nop, 4, 0, 0, [])])
def mk_b136_4 : List Bool × List mj_I := ([true, true, true, false, true, true], [(54, .istore_n 3, 3, 0, 0, []), (55, .aload_n 0, 0, 0, 0, []), (56, .iload 4, 4, 0, 0, []), (58, .ifCond .eq (12), 5, 0, 0, []), (61, .iload 5, 5, 0, 0, []), (63, .aload_n 0, 0, 0, 0, []), (64, .getfield 293, 51, 8, 0, []), (67, .if_icmp .ge (8), 6, 0, 0, []), (70, .nop, 5, 0, 0, [])])
def mk_b136_5 : List Bool × List mj_I := ([true, true, true, true, true, true], [(70, .iload 5, 5, 0, 0, []), (72, .goto (7), 7, 0, 0, [])])
def mk_b136_6 : List Bool × List mj_I := ([true, true, true, true, true, false], [(75, .aload_n 0, 0, 0, 0, []), (76, .getfield 293, 51, 8, 0, []), (79, .nop, 7, 0, 0, [])])
def mk_b136_7 : List Bool × List mj_I := ([true, true, true, true, true, false], [(79, .putfield 293, 51, 8, 0, []), (82, .iinc 4 20, 4, 0, 0, []), (85, .goto (-73), 1, 0, 0, [])])
def mk_b136_8 : List Bool × List mj_I := ([true, true, true, true, false, false], [(88, .aload_n 0, 0, 0, 0, []), (89, .getfield 32, 10, 8, 0, []), (92, .iload_n 1, 1, 0, 0, []), (93, .iload_n 2, 2, 0, 0, []), (94, .iastore, 0, 0, 0, []), (95, .iload_n 3, 3, 0, 0, []), (96, .ireturn, 0, 0, 0, [])])
def mk_m136 : Nat × List (List Bool × List mj_I) := (6, [mk_b136_0, mk_b136_1, mk_b136_2, mk_b136_3, mk_b136_4, mk_b136_5, mk_b136_6, mk_b136_7, mk_b136_8])
/-- NumbersCalledModel.best(II)I -/
def mk_b137_0 : List Bool × List mj_I := ([true, true, true, false], [(0, .aload_n 0, 0, 0, 0, []), (1, .iload_n 1, 1, 0, 0, []), (2, .invokevirtual 215, 75, 2, 1, []), (5, .ifCond .ne (6), 1, 0, 0, []), (8, .bipush (-5), 0, 0, 0, []), (10, .ireturn, 0, 0, 0, [])])
def mk_b137_1 : List Bool × List mj_I := ([true, true, true, false], [(11, .iload_n 2, 2, 0, 0, []), (12, .iconst 0, 0, 0, 0, []), (13, .iconst 1, 0, 0, 0, []), (14, .invokestatic 115, 72, 3, 1, []), (17, .ifCond .ne (6), 2, 0, 0, []), (20, .bipush (-7), 0, 0, 0, []), (22, .ireturn, 0, 0, 0, [])])
def mk_b137_2 : List Bool × List mj_I := ([true, true, true, false], [(23, .aload_n 0, 0, 0, 0, []), (24, .iload_n 1, 1, 0, 0, []), (25, .invokevirtual 296, 136, 2, 1, []), (28, .istore_n 3, 3, 0, 0, []), (29, .iload_n 2, 2, 0, 0, []), (30, .ifCond .ne (7), 3, 0, 0, []), (33, .iload_n 3, 3, 0, 0, []), (34, .goto (7), 4, 0, 0, [])])
def mk_b137_3 : List Bool × List mj_I := ([true, false, false, false], [(37, .aload_n 0, 0, 0, 0, []), (38, .getfield 293, 51, 8, 0, []), (41, .nop, 4, 0, 0, [])])
def mk_b137_4 : List Bool × List mj_I := ([false, false, false, false], [(41, .ireturn, 0, 0, 0, [])])
def mk_m137 : Nat × List (List Bool × List mj_I) := (4, [mk_b137_0, mk_b137_1, mk_b137_2, mk_b137_3, mk_b137_4])
/-- NumbersCalledModel.uneasy()I -/
def mk_b138_0 : List Bool × List mj_I := ([true, false, false, false], [(0, .iconst 0, 0, 0, 0, []), (1, .istore_n 1, 1, 0, 0, []), (2, .iconst 0, 0, 0, 0, []), (3, .istore_n 2, 2, 0, 0, []), (4, .nop, 1, 0, 0, [])])
def mk_b138_1 : List Bool × List mj_I := ([true, true, true, false], [(4, .iload_n 2, 2, 0, 0, []), (5, .aload_n 0, 0, 0, 0, []), (6, .getfield 119, 5, 8, 0, []), (9, .if_icmp .ge (39), 4, 0, 0, []), (12, .aload_n 0, 0, 0, 0, []), (13, .iload_n 2, 2, 0, 0, []), (14, .invokevirtual 296, 136, 2, 1, []), (17, .pop, 0, 0, 0, []), (18, .aload_n 0, 0, 0, 0, []), (19, .getfield 293, 51, 8, 0, []), (22, .istore_n 3, 3, 0, 0, []), (23, .iload_n 1, 1, 0, 0, []), (24, .iload_n 3, 3, 0, 0, []), (25, .aload_n 0, 0, 0, 0, []), (26, .iload_n 2, 2, 0, 0, []), (27, .invokevirtual 290, 135, 2, 1, []), (30, .if_icmp .ge (9), 2, 0, 0, []), (33, .iconst 1, 0, 0, 0, []), (34, .iload_n 2, 2, 0, 0, []), (35, .ishl, 0, 0, 0, []), (36, .goto (4), 3, 0, 0, [])])
def mk_b138_2 : List Bool × List mj_I := ([true, false, true, false], [(39, .iconst 0, 0, 0, 0, []), (40, .nop, 3, 0, 0, [])])
def mk_b138_3 : List Bool × List mj_I := ([true, false, true, false], [(40, .ior, 0, 0, 0, []), (41, .istore_n 1, 1, 0, 0, []), (42, .iinc 2 1, 2, 0, 0, []), (45, .goto (-41), 1, 0, 0, [])])
def mk_b138_4 : List Bool × List mj_I := ([false, true, false, false], [(48, .iload_n 1, 1, 0, 0, []), (49, .ireturn, 0, 0, 0, [])])
def mk_m138 : Nat × List (List Bool × List mj_I) := (4, [mk_b138_0, mk_b138_1, mk_b138_2, mk_b138_3, mk_b138_4])
/-- NumbersCalledModel.rests(I)I -/
def mk_b139_0 : List Bool × List mj_I := ([true, true, false, false, false, false, false, false], [(0, .iload_n 1, 1, 0, 0, []), (1, .iconst 0, 0, 0, 0, []), (2, .iconst 5, 0, 0, 0, []), (3, .invokestatic 115, 72, 3, 1, []), (6, .ifCond .ne (6), 1, 0, 0, []), (9, .bipush (-2), 0, 0, 0, []), (11, .ireturn, 0, 0, 0, [])])
def mk_b139_1 : List Bool × List mj_I := ([true, true, false, false, false, false, false, false], [(12, .iconst 0, 0, 0, 0, []), (13, .istore_n 2, 2, 0, 0, []), (14, .iconst 1, 0, 0, 0, []), (15, .istore_n 3, 3, 0, 0, []), (16, .iconst 0, 0, 0, 0, []), (17, .istore 4, 4, 0, 0, []), (19, .nop, 2, 0, 0, [])])
def mk_b139_2 : List Bool × List mj_I := ([true, true, true, true, true, false, false, false], [(19, .iload 4, 4, 0, 0, []), (21, .iload_n 1, 1, 0, 0, []), (22, .if_icmp .ge (72), 6, 0, 0, []), (25, .iload_n 3, 3, 0, 0, []), (26, .ifCond .eq (68), 6, 0, 0, []), (29, .iconst 0, 0, 0, 0, []), (30, .istore_n 3, 3, 0, 0, []), (31, .iconst 0, 0, 0, 0, []), (32, .istore 5, 5, 0, 0, []), (34, .nop, 3, 0, 0, [])])
def mk_b139_3 : List Bool × List mj_I := ([true, true, true, true, true, true, false, false], [(34, .iload 5, 5, 0, 0, []), (36, .aload_n 0, 0, 0, 0, []), (37, .getfield 119, 5, 8, 0, []), (40, .if_icmp .ge (48), 5, 0, 0, []), (43, .aload_n 0, 0, 0, 0, []), (44, .iload 5, 5, 0, 0, []), (46, .invokevirtual 296, 136, 2, 1, []), (49, .istore 6, 6, 0, 0, []), (51, .aload_n 0, 0, 0, 0, []), (52, .getfield 293, 51, 8, 0, []), (55, .istore 7, 7, 0, 0, []), (57, .iload 7, 7, 0, 0, []), (59, .aload_n 0, 0, 0, 0, []), (60, .iload 5, 5, 0, 0, []), (62, .invokevirtual 290, 135, 2, 1, []), (65, .if_icmp .ge (17), 4, 0, 0, []), (68, .aload_n 0, 0, 0, 0, []), (69, .getfield 32, 10, 8, 0, []), (72, .iload 5, 5, 0, 0, []), (74, .iload 6, 6, 0, 0, []), (76, .iastore, 0, 0, 0, []), (77, .iinc 2 1, 2, 0, 0, []), (80, .iconst 1, 0, 0, 0, []), (81, .istore_n 3, 3, 0, 0, []), (82, .nop, 4, 0, 0, [])])
def mk_b139_4 : List Bool × List mj_I := ([true, true, true, true, true, true, false, false], [(82, .iinc 5 1, 5, 0, 0, []), (85, .goto (-51), 3, 0, 0, [])])
def mk_b139_5 : List Bool × List mj_I := ([true, true, true, true, true, false, false, false], [(88, .iinc 4 1, 4, 0, 0, []), (91, .goto (-72), 2, 0, 0, [])])
def mk_b139_6 : List Bool × List mj_I := ([false, false, true, false, false, false, false, false], [(94, .iload_n 2, 2, 0, 0, []), (95, .ireturn, 0, 0, 0, [])])
def mk_m139 : Nat × List (List Bool × List mj_I) := (8, [mk_b139_0, mk_b139_1, mk_b139_2, mk_b139_3, mk_b139_4, mk_b139_5, mk_b139_6])
/-- NumbersCalledModel.when(III)I -/
def mk_b140_0 : List Bool × List mj_I := ([true, true, true, true, false], [(0, .iload_n 1, 1, 0, 0, []), (1, .iconst 0, 0, 0, 0, []), (2, .iconst 3, 0, 0, 0, []), (3, .invokestatic 115, 72, 3, 1, []), (6, .ifCond .eq (22), 1, 0, 0, []), (9, .iload_n 2, 2, 0, 0, []), (10, .iconst 1, 0, 0, 0, []), (11, .bipush 99, 0, 0, 0, []), (13, .invokestatic 115, 72, 3, 1, []), (16, .ifCond .eq (12), 1, 0, 0, []), (19, .iload_n 3, 3, 0, 0, []), (20, .iconst 0, 0, 0, 0, []), (21, .iconst 1, 0, 0, 0, []), (22, .invokestatic 115, 72, 3, 1, []), (25, .ifCond .ne (6), 2, 0, 0, []), (28, .nop, 1, 0, 0, [])])
def mk_b140_1 : List Bool × List mj_I := ([false, false, false, false, false], [(28, .bipush (-2), 0, 0, 0, []), (30, .ireturn, 0, 0, 0, [])])
def mk_b140_2 : List Bool × List mj_I := ([true, true, true, true, false], [(31, .aload_n 0, 0, 0, 0, []), (32, .getfield 119, 5, 8, 0, []), (35, .bipush 16, 0, 0, 0, []), (37, .if_icmp .ne (6), 3, 0, 0, []), (40, .bipush (-3), 0, 0, 0, []), (42, .ireturn, 0, 0, 0, [])])
def mk_b140_3 : List Bool × List mj_I := ([true, true, true, true, false], [(43, .aload_n 0, 0, 0, 0, []), (44, .iconst 0, 0, 0, 0, []), (45, .sipush 1000, 0, 0, 0, []), (48, .iload_n 1, 1, 0, 0, []), (49, .imul, 0, 0, 0, []), (50, .bipush 10, 0, 0, 0, []), (52, .iload_n 2, 2, 0, 0, []), (53, .imul, 0, 0, 0, []), (54, .iadd, 0, 0, 0, []), (55, .bipush 9, 0, 0, 0, []), (57, .iadd, 0, 0, 0, []), (58, .iconst 0, 0, 0, 0, []), (59, .invokevirtual 211, 100, 4, 0, []), (62, .aload_n 0, 0, 0, 0, []), (63, .dup, 0, 0, 0, []), (64, .getfield 119, 5, 8, 0, []), (67, .iconst 1, 0, 0, 0, []), (68, .iadd, 0, 0, 0, []), (69, .putfield 119, 5, 8, 0, []), (72, .aload_n 0, 0, 0, 0, []), (73, .aload_n 0, 0, 0, 0, []), (74, .getfield 119, 5, 8, 0, []), (77, .iconst 1, 0, 0, 0, []), (78, .isub, 0, 0, 0, []), (79, .invokevirtual 296, 136, 2, 1, []), (82, .istore 4, 4, 0, 0, []), (84, .aload_n 0, 0, 0, 0, []), (85, .dup, 0, 0, 0, []), (86, .getfield 119, 5, 8, 0, []), (89, .iconst 1, 0, 0, 0, []), (90, .isub, 0, 0, 0, []), (91, .putfield 119, 5, 8, 0, []), (94, .iload_n 3, 3, 0, 0, []), (95, .ifCond .ne (8), 4, 0, 0, []), (98, .iload 4, 4, 0, 0, []), (100, .goto (7), 5, 0, 0, [])])
def mk_b140_4 : List Bool × List mj_I := ([true, false, false, false, false], [(103, .aload_n 0, 0, 0, 0, []), (104, .getfield 293, 51, 8, 0, []), (107, .nop, 5, 0, 0, [])])
def mk_b140_5 : List Bool × List mj_I := ([false, false, false, false, false], [(107, .ireturn, 0, 0, 0, [])])
def mk_m140 : Nat × List (List Bool × List mj_I) := (5, [mk_b140_0, mk_b140_1, mk_b140_2, mk_b140_3, mk_b140_4, mk_b140_5])
/-- NumbersCalledModel.overOf(III)J -/
def mk_b141_0 : List Bool × List mj_I := ([true, true, true, true, false, false, false], [(0, .iconst 0, 0, 0, 0, []), (1, .istore 4, 4, 0, 0, []), (3, .nop, 1, 0, 0, [])])
def mk_b141_1 : List Bool × List mj_I := ([true, true, true, true, true, false, false], [(3, .iload 4, 4, 0, 0, []), (5, .bipush 40, 0, 0, 0, []), (7, .if_icmp .gt (28), 4, 0, 0, []), (10, .aload_n 0, 0, 0, 0, []), (11, .getfield 98, 52, 8, 0, []), (14, .iload 4, 4, 0, 0, []), (16, .iload 4, 4, 0, 0, []), (18, .ifCond .ne (9), 2, 0, 0, []), (21, .ldc2_w 299, 6, 0, 0, []), (24, .goto (4), 3, 0, 0, [])])
def mk_b141_2 : List Bool × List mj_I := ([true, true, true, true, true, false, false], [(27, .lconst 0, 0, 0, 0, []), (28, .nop, 3, 0, 0, [])])
def mk_b141_3 : List Bool × List mj_I := ([true, true, true, true, true, false, false], [(28, .lastore, 0, 0, 0, []), (29, .iinc 4 1, 4, 0, 0, []), (32, .goto (-29), 1, 0, 0, [])])
def mk_b141_4 : List Bool × List mj_I := ([true, true, true, true, false, false, false], [(35, .iconst 0, 0, 0, 0, []), (36, .istore 4, 4, 0, 0, []), (38, .nop, 5, 0, 0, [])])
def mk_b141_5 : List Bool × List mj_I := ([true, true, true, true, true, false, false], [(38, .iload 4, 4, 0, 0, []), (40, .iload_n 1, 1, 0, 0, []), (41, .if_icmp .ge (87), 8, 0, 0, []), (44, .bipush 40, 0, 0, 0, []), (46, .istore 5, 5, 0, 0, []), (48, .nop, 6, 0, 0, [])])
def mk_b141_6 : List Bool × List mj_I := ([true, true, true, true, true, true, false], [(48, .iload 5, 5, 0, 0, []), (50, .ifCond .le (50), 7, 0, 0, []), (53, .aload_n 0, 0, 0, 0, []), (54, .getfield 98, 52, 8, 0, []), (57, .iload 5, 5, 0, 0, []), (59, .aload_n 0, 0, 0, 0, []), (60, .getfield 98, 52, 8, 0, []), (63, .iload 5, 5, 0, 0, []), (65, .laload, 0, 0, 0, []), (66, .bipush 100, 0, 0, 0, []), (68, .iload_n 2, 2, 0, 0, []), (69, .isub, 0, 0, 0, []), (70, .i2l, 0, 0, 0, []), (71, .lmul, 0, 0, 0, []), (72, .ldc2_w 301, 7, 0, 0, []), (75, .ldiv, 0, 0, 0, []), (76, .aload_n 0, 0, 0, 0, []), (77, .getfield 98, 52, 8, 0, []), (80, .iload 5, 5, 0, 0, []), (82, .iconst 1, 0, 0, 0, []), (83, .isub, 0, 0, 0, []), (84, .laload, 0, 0, 0, []), (85, .iload_n 2, 2, 0, 0, []), (86, .i2l, 0, 0, 0, []), (87, .lmul, 0, 0, 0, []), (88, .ldc2_w 301, 7, 0, 0, []), (91, .ldiv, 0, 0, 0, []), (92, .ladd, 0, 0, 0, []), (93, .lastore, 0, 0, 0, []), (94, .iinc 5 (-1), 5, 0, 0, []), (97, .goto (-49), 6, 0, 0, [])])
def mk_b141_7 : List Bool × List mj_I := ([true, true, true, true, true, false, false], [(100, .aload_n 0, 0, 0, 0, []), (101, .getfield 98, 52, 8, 0, []), (104, .iconst 0, 0, 0, 0, []), (105, .aload_n 0, 0, 0, 0, []), (106, .getfield 98, 52, 8, 0, []), (109, .iconst 0, 0, 0, 0, []), (110, .laload, 0, 0, 0, []), (111, .bipush 100, 0, 0, 0, []), (113, .iload_n 2, 2, 0, 0, []), (114, .isub, 0, 0, 0, []), (115, .i2l, 0, 0, 0, []), (116, .lmul, 0, 0, 0, []), (117, .ldc2_w 301, 7, 0, 0, []), (120, .ldiv, 0, 0, 0, []), (121, .lastore, 0, 0, 0, []), (122, .iinc 4 1, 4, 0, 0, []), (125, .goto (-87), 5, 0, 0, [])])
def mk_b141_8 : List Bool × List mj_I := ([true, false, false, true, false, false, false], [(128, .lconst 0, 0, 0, 0, []), (129, .lstore 4, 4, 0, 0, []), (131, .iload_n 3, 3, 0, 0, []), (132, .iconst 1, 0, 0, 0, []), (133, .iadd, 0, 0, 0, []), (134, .istore 6, 6, 0, 0, []), (136, .nop, 9, 0, 0, [])])
def mk_b141_9 : List Bool × List mj_I := ([true, false, false, false, true, false, true], [(136, .iload 6, 6, 0, 0, []), (138, .bipush 40, 0, 0, 0, []), (140, .if_icmp .gt (21), 10, 0, 0, []), (143, .lload 4, 4, 0, 0, []), (145, .aload_n 0, 0, 0, 0, []), (146, .getfield 98, 52, 8, 0, []), (149, .iload 6, 6, 0, 0, []), (151, .laload, 0, 0, 0, []), (152, .ladd, 0, 0, 0, []), (153, .lstore 4, 4, 0, 0, []), (155, .iinc 6 1, 6, 0, 0, []), (158, .goto (-22), 9, 0, 0, [])])
def mk_b141_10 : List Bool × List mj_I := ([false, false, false, false, true, false, false], [(161, .lload 4, 4, 0, 0, []), (163, .lreturn, 0, 0, 0, [])])
def mk_m141 : Nat × List (List Bool × List mj_I) := (7, [mk_b141_0, mk_b141_1, mk_b141_2, mk_b141_3, mk_b141_4, mk_b141_5, mk_b141_6, mk_b141_7, mk_b141_8, mk_b141_9, mk_b141_10])
/-- NumbersCalledModel.over(III)J -/
def mk_b142_0 : List Bool × List mj_I := ([true, true, true, true], [(0, .iload_n 1, 1, 0, 0, []), (1, .iconst 0, 0, 0, 0, []), (2, .bipush 40, 0, 0, 0, []), (4, .invokestatic 115, 72, 3, 1, []), (7, .ifCond .eq (33), 1, 0, 0, []), (10, .iload_n 2, 2, 0, 0, []), (11, .iconst 0, 0, 0, 0, []), (12, .bipush 100, 0, 0, 0, []), (14, .invokestatic 115, 72, 3, 1, []), (17, .ifCond .eq (23), 1, 0, 0, []), (20, .iload_n 3, 3, 0, 0, []), (21, .iconst 0, 0, 0, 0, []), (22, .bipush 40, 0, 0, 0, []), (24, .invokestatic 115, 72, 3, 1, []), (27, .ifCond .eq (13), 1, 0, 0, []), (30, .aload_n 0, 0, 0, 0, []), (31, .iload_n 1, 1, 0, 0, []), (32, .iload_n 2, 2, 0, 0, []), (33, .iload_n 3, 3, 0, 0, []), (34, .invokevirtual 303, 141, 4, 2, []), (37, .goto (6), 2, 0, 0, [])])
def mk_b142_1 : List Bool × List mj_I := ([false, false, false, false], [(40, .ldc2_w 307, 0, 0, 0, []), (43, .nop, 2, 0, 0, [])])
def mk_b142_2 : List Bool × List mj_I := ([false, false, false, false], [(43, .lreturn, 0, 0, 0, [])])
def mk_m142 : Nat × List (List Bool × List mj_I) := (4, [mk_b142_0, mk_b142_1, mk_b142_2])
/-- NumbersCalledModel.give(III)I -/
def mk_b143_0 : List Bool × List mj_I := ([true, true, true, true, false], [(0, .iload_n 1, 1, 0, 0, []), (1, .iconst 0, 0, 0, 0, []), (2, .bipush 100, 0, 0, 0, []), (4, .invokestatic 115, 72, 3, 1, []), (7, .ifCond .eq (24), 1, 0, 0, []), (10, .iload_n 2, 2, 0, 0, []), (11, .iconst 0, 0, 0, 0, []), (12, .bipush 40, 0, 0, 0, []), (14, .invokestatic 115, 72, 3, 1, []), (17, .ifCond .eq (14), 1, 0, 0, []), (20, .iload_n 3, 3, 0, 0, []), (21, .iconst 0, 0, 0, 0, []), (22, .sipush 1000, 0, 0, 0, []), (25, .invokestatic 115, 72, 3, 1, []), (28, .ifCond .ne (6), 2, 0, 0, []), (31, .nop, 1, 0, 0, [])])
def mk_b143_1 : List Bool × List mj_I := ([false, false, false, false, false], [(31, .bipush (-2), 0, 0, 0, []), (33, .ireturn, 0, 0, 0, [])])
def mk_b143_2 : List Bool × List mj_I := ([true, true, true, true, false], [(34, .bipush 40, 0, 0, 0, []), (36, .istore 4, 4, 0, 0, []), (38, .nop, 3, 0, 0, [])])
def mk_b143_3 : List Bool × List mj_I := ([true, true, true, true, true], [(38, .iload 4, 4, 0, 0, []), (40, .ifCond .le (30), 5, 0, 0, []), (43, .aload_n 0, 0, 0, 0, []), (44, .iload 4, 4, 0, 0, []), (46, .iload_n 1, 1, 0, 0, []), (47, .iload_n 2, 2, 0, 0, []), (48, .invokevirtual 303, 141, 4, 2, []), (51, .ldc2_w 309, 1, 0, 0, []), (54, .iload_n 3, 3, 0, 0, []), (55, .i2l, 0, 0, 0, []), (56, .lmul, 0, 0, 0, []), (57, .lcmp, 0, 0, 0, []), (58, .ifCond .gt (6), 4, 0, 0, []), (61, .iload 4, 4, 0, 0, []), (63, .ireturn, 0, 0, 0, [])])
def mk_b143_4 : List Bool × List mj_I := ([true, true, true, true, true], [(64, .iinc 4 (-1), 4, 0, 0, []), (67, .goto (-29), 3, 0, 0, [])])
def mk_b143_5 : List Bool × List mj_I := ([false, false, false, false, false], [(70, .iconst 0, 0, 0, 0, []), (71, .ireturn, 0, 0, 0, [])])
def mk_m143 : Nat × List (List Bool × List mj_I) := (5, [mk_b143_0, mk_b143_1, mk_b143_2, mk_b143_3, mk_b143_4, mk_b143_5])
/-- NumbersCalledModel.rollWrong(I)I -/
def mk_b144_0 : List Bool × List mj_I := ([true, true], [(0, .iload_n 1, 1, 0, 0, []), (1, .iconst 0, 0, 0, 0, []), (2, .iconst 3, 0, 0, 0, []), (3, .invokestatic 115, 72, 3, 1, []), (6, .ifCond .ne (6), 1, 0, 0, []), (9, .bipush (-2), 0, 0, 0, []), (11, .ireturn, 0, 0, 0, [])])
def mk_b144_1 : List Bool × List mj_I := ([true, true], [(12, .aload_n 0, 0, 0, 0, []), (13, .getfield 50, 26, 8, 0, []), (16, .iload_n 1, 1, 0, 0, []), (17, .iaload, 0, 0, 0, []), (18, .iconst (-1), 0, 0, 0, []), (19, .if_icmp .ne (6), 2, 0, 0, []), (22, .bipush (-11), 0, 0, 0, []), (24, .ireturn, 0, 0, 0, [])])
def mk_b144_2 : List Bool × List mj_I := ([true, true], [(25, .aload_n 0, 0, 0, 0, []), (26, .getfield 53, 27, 8, 0, []), (29, .iload_n 1, 1, 0, 0, []), (30, .iaload, 0, 0, 0, []), (31, .aload_n 0, 0, 0, 0, []), (32, .getfield 119, 5, 8, 0, []), (35, .if_icmp .ne (7), 3, 0, 0, []), (38, .iconst 0, 0, 0, 0, []), (39, .goto (5), 4, 0, 0, [])])
def mk_b144_3 : List Bool × List mj_I := ([false, false], [(42, .bipush (-2), 0, 0, 0, []), (44, .nop, 4, 0, 0, [])])
def mk_b144_4 : List Bool × List mj_I := ([false, false], [(44, .ireturn, 0, 0, 0, [])])
def mk_m144 : Nat × List (List Bool × List mj_I) := (2, [mk_b144_0, mk_b144_1, mk_b144_2, mk_b144_3, mk_b144_4])
/-- NumbersCalledModel.unlike(I)I -/
def mk_b145_0 : List Bool × List mj_I := ([true, true, false], [(0, .aload_n 0, 0, 0, 0, []), (1, .invokevirtual 256, 112, 1, 0, []), (4, .iconst 0, 0, 0, 0, []), (5, .istore_n 2, 2, 0, 0, []), (6, .nop, 1, 0, 0, [])])
def mk_b145_1 : List Bool × List mj_I := ([true, true, true], [(6, .iload_n 2, 2, 0, 0, []), (7, .aload_n 0, 0, 0, 0, []), (8, .getfield 119, 5, 8, 0, []), (11, .if_icmp .ge (31), 3, 0, 0, []), (14, .aload_n 0, 0, 0, 0, []), (15, .getfield 56, 28, 8, 0, []), (18, .bipush 40, 0, 0, 0, []), (20, .iload_n 1, 1, 0, 0, []), (21, .imul, 0, 0, 0, []), (22, .iload_n 2, 2, 0, 0, []), (23, .iadd, 0, 0, 0, []), (24, .iaload, 0, 0, 0, []), (25, .aload_n 0, 0, 0, 0, []), (26, .getfield 83, 45, 8, 0, []), (29, .iload_n 2, 2, 0, 0, []), (30, .iaload, 0, 0, 0, []), (31, .if_icmp .eq (5), 2, 0, 0, []), (34, .iload_n 2, 2, 0, 0, []), (35, .ireturn, 0, 0, 0, [])])
def mk_b145_2 : List Bool × List mj_I := ([true, true, true], [(36, .iinc 2 1, 2, 0, 0, []), (39, .goto (-33), 1, 0, 0, [])])
def mk_b145_3 : List Bool × List mj_I := ([false, false, false], [(42, .iconst (-1), 0, 0, 0, []), (43, .ireturn, 0, 0, 0, [])])
def mk_m145 : Nat × List (List Bool × List mj_I) := (3, [mk_b145_0, mk_b145_1, mk_b145_2, mk_b145_3])
/-- NumbersCalledModel.judge(I)I -/
def mk_b146_0 : List Bool × List mj_I := ([true, true, false], [(0, .aload_n 0, 0, 0, 0, []), (1, .iload_n 1, 1, 0, 0, []), (2, .invokevirtual 311, 144, 2, 1, []), (5, .istore_n 2, 2, 0, 0, []), (6, .iload_n 2, 2, 0, 0, []), (7, .ifCond .ne (11), 1, 0, 0, []), (10, .aload_n 0, 0, 0, 0, []), (11, .iload_n 1, 1, 0, 0, []), (12, .invokevirtual 314, 145, 2, 1, []), (15, .goto (4), 2, 0, 0, [])])
def mk_b146_1 : List Bool × List mj_I := ([false, false, true], [(18, .iload_n 2, 2, 0, 0, []), (19, .nop, 2, 0, 0, [])])
def mk_b146_2 : List Bool × List mj_I := ([false, false, false], [(19, .ireturn, 0, 0, 0, [])])
def mk_m146 : Nat × List (List Bool × List mj_I) := (3, [mk_b146_0, mk_b146_1, mk_b146_2])
/-- NumbersCalledModel.laws(I)I -/
def mk_b147_0 : List Bool × List mj_I := ([true, true, false, false, false, false], [(0, .aload_n 0, 0, 0, 0, []), (1, .iload_n 1, 1, 0, 0, []), (2, .invokevirtual 311, 144, 2, 1, []), (5, .istore_n 2, 2, 0, 0, []), (6, .iload_n 2, 2, 0, 0, []), (7, .ifCond .eq (5), 1, 0, 0, []), (10, .iload_n 2, 2, 0, 0, []), (11, .ireturn, 0, 0, 0, [])])
def mk_b147_1 : List Bool × List mj_I := ([true, true, false, false, false, false], [(12, .aload_n 0, 0, 0, 0, []), (13, .getfield 140, 16, 8, 0, []), (16, .istore_n 3, 3, 0, 0, []), (17, .iconst 0, 0, 0, 0, []), (18, .istore 4, 4, 0, 0, []), (20, .iconst 0, 0, 0, 0, []), (21, .istore 5, 5, 0, 0, []), (23, .nop, 2, 0, 0, [])])
def mk_b147_2 : List Bool × List mj_I := ([true, true, false, true, true, true], [(23, .iload 5, 5, 0, 0, []), (25, .aload_n 0, 0, 0, 0, []), (26, .getfield 137, 15, 8, 0, []), (29, .if_icmp .ge (37), 5, 0, 0, []), (32, .aload_n 0, 0, 0, 0, []), (33, .iload 5, 5, 0, 0, []), (35, .putfield 140, 16, 8, 0, []), (38, .iload 4, 4, 0, 0, []), (40, .aload_n 0, 0, 0, 0, []), (41, .iload_n 1, 1, 0, 0, []), (42, .invokevirtual 314, 145, 2, 1, []), (45, .iconst (-1), 0, 0, 0, []), (46, .if_icmp .ne (10), 3, 0, 0, []), (49, .iconst 1, 0, 0, 0, []), (50, .iload 5, 5, 0, 0, []), (52, .ishl, 0, 0, 0, []), (53, .goto (4), 4, 0, 0, [])])
def mk_b147_3 : List Bool × List mj_I := ([true, true, false, true, false, true], [(56, .iconst 0, 0, 0, 0, []), (57, .nop, 4, 0, 0, [])])
def mk_b147_4 : List Bool × List mj_I := ([true, true, false, true, false, true], [(57, .ior, 0, 0, 0, []), (58, .istore 4, 4, 0, 0, []), (60, .iinc 5 1, 5, 0, 0, []), (63, .goto (-40), 2, 0, 0, [])])
def mk_b147_5 : List Bool × List mj_I := ([true, false, false, true, true, false], [(66, .aload_n 0, 0, 0, 0, []), (67, .iload_n 3, 3, 0, 0, []), (68, .putfield 140, 16, 8, 0, []), (71, .iload 4, 4, 0, 0, []), (73, .ireturn, 0, 0, 0, [])])
def mk_m147 : Nat × List (List Bool × List mj_I) := (6, [mk_b147_0, mk_b147_1, mk_b147_2, mk_b147_3, mk_b147_4, mk_b147_5])
/-- NumbersCalledModel.which(I)I -/
def mk_b148_0 : List Bool × List mj_I := ([true, true, false, false, false, false], [(0, .aload_n 0, 0, 0, 0, []), (1, .iload_n 1, 1, 0, 0, []), (2, .invokevirtual 311, 144, 2, 1, []), (5, .istore_n 2, 2, 0, 0, []), (6, .iload_n 2, 2, 0, 0, []), (7, .ifCond .eq (5), 1, 0, 0, []), (10, .iload_n 2, 2, 0, 0, []), (11, .ireturn, 0, 0, 0, [])])
def mk_b148_1 : List Bool × List mj_I := ([true, true, false, false, false, false], [(12, .aload_n 0, 0, 0, 0, []), (13, .getfield 134, 2, 8, 0, []), (16, .istore_n 3, 3, 0, 0, []), (17, .iconst 0, 0, 0, 0, []), (18, .istore 4, 4, 0, 0, []), (20, .iconst 0, 0, 0, 0, []), (21, .istore 5, 5, 0, 0, []), (23, .nop, 2, 0, 0, [])])
def mk_b148_2 : List Bool × List mj_I := ([true, true, false, true, true, true], [(23, .iload 5, 5, 0, 0, []), (25, .iconst 4, 0, 0, 0, []), (26, .if_icmp .ge (37), 5, 0, 0, []), (29, .aload_n 0, 0, 0, 0, []), (30, .iload 5, 5, 0, 0, []), (32, .putfield 134, 2, 8, 0, []), (35, .iload 4, 4, 0, 0, []), (37, .aload_n 0, 0, 0, 0, []), (38, .iload_n 1, 1, 0, 0, []), (39, .invokevirtual 314, 145, 2, 1, []), (42, .iconst (-1), 0, 0, 0, []), (43, .if_icmp .ne (10), 3, 0, 0, []), (46, .iconst 1, 0, 0, 0, []), (47, .iload 5, 5, 0, 0, []), (49, .ishl, 0, 0, 0, []), (50, .goto (4), 4, 0, 0, [])])
def mk_b148_3 : List Bool × List mj_I := ([true, true, false, true, false, true], [(53, .iconst 0, 0, 0, 0, []), (54, .nop, 4, 0, 0, [])])
def mk_b148_4 : List Bool × List mj_I := ([true, true, false, true, false, true], [(54, .ior, 0, 0, 0, []), (55, .istore 4, 4, 0, 0, []), (57, .iinc 5 1, 5, 0, 0, []), (60, .goto (-37), 2, 0, 0, [])])
def mk_b148_5 : List Bool × List mj_I := ([true, false, false, true, true, false], [(63, .aload_n 0, 0, 0, 0, []), (64, .iload_n 3, 3, 0, 0, []), (65, .putfield 134, 2, 8, 0, []), (68, .iload 4, 4, 0, 0, []), (70, .ireturn, 0, 0, 0, [])])
def mk_m148 : Nat × List (List Bool × List mj_I) := (6, [mk_b148_0, mk_b148_1, mk_b148_2, mk_b148_3, mk_b148_4, mk_b148_5])
/-- NumbersCalledModel.film(I)I -/
def mk_b149_0 : List Bool × List mj_I := ([true, true, false], [(0, .iload_n 1, 1, 0, 0, []), (1, .iconst 0, 0, 0, 0, []), (2, .iconst 3, 0, 0, 0, []), (3, .invokestatic 115, 72, 3, 1, []), (6, .ifCond .ne (6), 1, 0, 0, []), (9, .bipush (-2), 0, 0, 0, []), (11, .ireturn, 0, 0, 0, [])])
def mk_b149_1 : List Bool × List mj_I := ([true, true, false], [(12, .aload_n 0, 0, 0, 0, []), (13, .invokevirtual 256, 112, 1, 0, []), (16, .aload_n 0, 0, 0, 0, []), (17, .getfield 50, 26, 8, 0, []), (20, .iload_n 1, 1, 0, 0, []), (21, .iconst 2, 0, 0, 0, []), (22, .iastore, 0, 0, 0, []), (23, .aload_n 0, 0, 0, 0, []), (24, .getfield 53, 27, 8, 0, []), (27, .iload_n 1, 1, 0, 0, []), (28, .aload_n 0, 0, 0, 0, []), (29, .getfield 119, 5, 8, 0, []), (32, .iastore, 0, 0, 0, []), (33, .iconst 0, 0, 0, 0, []), (34, .istore_n 2, 2, 0, 0, []), (35, .nop, 2, 0, 0, [])])
def mk_b149_2 : List Bool × List mj_I := ([true, true, true], [(35, .iload_n 2, 2, 0, 0, []), (36, .bipush 40, 0, 0, 0, []), (38, .if_icmp .ge (38), 5, 0, 0, []), (41, .aload_n 0, 0, 0, 0, []), (42, .getfield 56, 28, 8, 0, []), (45, .bipush 40, 0, 0, 0, []), (47, .iload_n 1, 1, 0, 0, []), (48, .imul, 0, 0, 0, []), (49, .iload_n 2, 2, 0, 0, []), (50, .iadd, 0, 0, 0, []), (51, .iload_n 2, 2, 0, 0, []), (52, .aload_n 0, 0, 0, 0, []), (53, .getfield 119, 5, 8, 0, []), (56, .if_icmp .ge (12), 3, 0, 0, []), (59, .aload_n 0, 0, 0, 0, []), (60, .getfield 83, 45, 8, 0, []), (63, .iload_n 2, 2, 0, 0, []), (64, .iaload, 0, 0, 0, []), (65, .goto (4), 4, 0, 0, [])])
def mk_b149_3 : List Bool × List mj_I := ([true, true, true], [(68, .iconst 0, 0, 0, 0, []), (69, .nop, 4, 0, 0, [])])
def mk_b149_4 : List Bool × List mj_I := ([true, true, true], [(69, .iastore, 0, 0, 0, []), (70, .iinc 2 1, 2, 0, 0, []), (73, .goto (-38), 2, 0, 0, [])])
def mk_b149_5 : List Bool × List mj_I := ([true, false, false], [(76, .aload_n 0, 0, 0, 0, []), (77, .getfield 119, 5, 8, 0, []), (80, .ireturn, 0, 0, 0, [])])
def mk_m149 : Nat × List (List Bool × List mj_I) := (3, [mk_b149_0, mk_b149_1, mk_b149_2, mk_b149_3, mk_b149_4, mk_b149_5])
/-- NumbersCalledModel.draws(I)V -/
def mk_b150_0 : List Bool × List mj_I := ([true, true, false, false, false], [(0, .iload_n 1, 1, 0, 0, []), (1, .i2l, 0, 0, 0, []), (2, .lconst 1, 0, 0, 0, []), (3, .ladd, 0, 0, 0, []), (4, .lstore_n 2, 2, 0, 0, []), (5, .iconst 0, 0, 0, 0, []), (6, .istore 4, 4, 0, 0, []), (8, .nop, 1, 0, 0, [])])
def mk_b150_1 : List Bool × List mj_I := ([true, false, true, false, true], [(8, .iload 4, 4, 0, 0, []), (10, .aload_n 0, 0, 0, 0, []), (11, .getfield 119, 5, 8, 0, []), (14, .if_icmp .ge (63), 2, 0, 0, []), (17, .aload_n 0, 0, 0, 0, []), (18, .getfield 102, 53, 8, 0, []), (21, .iload 4, 4, 0, 0, []), (23, .aload_n 0, 0, 0, 0, []), (24, .getfield 32, 10, 8, 0, []), (27, .iload 4, 4, 0, 0, []), (29, .iaload, 0, 0, 0, []), (30, .iastore, 0, 0, 0, []), (31, .lload_n 2, 2, 0, 0, []), (32, .ldc2_w 317, 3, 0, 0, []), (35, .lmul, 0, 0, 0, []), (36, .ldc2_w 319, 4, 0, 0, []), (39, .lrem, 0, 0, 0, []), (40, .lstore_n 2, 2, 0, 0, []), (41, .aload_n 0, 0, 0, 0, []), (42, .getfield 32, 10, 8, 0, []), (45, .iload 4, 4, 0, 0, []), (47, .aload_n 0, 0, 0, 0, []), (48, .getfield 32, 10, 8, 0, []), (51, .iload 4, 4, 0, 0, []), (53, .iaload, 0, 0, 0, []), (54, .lload_n 2, 2, 0, 0, []), (55, .ldc2_w 321, 5, 0, 0, []), (58, .lrem, 0, 0, 0, []), (59, .l2i, 0, 0, 0, []), (60, .iadd, 0, 0, 0, []), (61, .bipush 10, 0, 0, 0, []), (63, .isub, 0, 0, 0, []), (64, .iconst 0, 0, 0, 0, []), (65, .bipush 119, 0, 0, 0, []), (67, .invokestatic 208, 73, 3, 1, []), (70, .iastore, 0, 0, 0, []), (71, .iinc 4 1, 4, 0, 0, []), (74, .goto (-66), 1, 0, 0, [])])
def mk_b150_2 : List Bool × List mj_I := ([true, false, false, false, false], [(77, .aload_n 0, 0, 0, 0, []), (78, .invokevirtual 256, 112, 1, 0, []), (81, .return_, 0, 0, 0, [])])
def mk_m150 : Nat × List (List Bool × List mj_I) := (5, [mk_b150_0, mk_b150_1, mk_b150_2])
/-- NumbersCalledModel.undraws()V -/
def mk_b151_0 : List Bool × List mj_I := ([true, false], [(0, .iconst 0, 0, 0, 0, []), (1, .istore_n 1, 1, 0, 0, []), (2, .nop, 1, 0, 0, [])])
def mk_b151_1 : List Bool × List mj_I := ([true, true], [(2, .iload_n 1, 1, 0, 0, []), (3, .aload_n 0, 0, 0, 0, []), (4, .getfield 119, 5, 8, 0, []), (7, .if_icmp .ge (21), 2, 0, 0, []), (10, .aload_n 0, 0, 0, 0, []), (11, .getfield 32, 10, 8, 0, []), (14, .iload_n 1, 1, 0, 0, []), (15, .aload_n 0, 0, 0, 0, []), (16, .getfield 102, 53, 8, 0, []), (19, .iload_n 1, 1, 0, 0, []), (20, .iaload, 0, 0, 0, []), (21, .iastore, 0, 0, 0, []), (22, .iinc 1 1, 1, 0, 0, []), (25, .goto (-23), 1, 0, 0, [])])
def mk_b151_2 : List Bool × List mj_I := ([false, false], [(28, .return_, 0, 0, 0, [])])
def mk_m151 : Nat × List (List Bool × List mj_I) := (2, [mk_b151_0, mk_b151_1, mk_b151_2])
/-- NumbersCalledModel.drawn(II)I -/
def mk_b152_0 : List Bool × List mj_I := ([true, true, true, false], [(0, .iload_n 1, 1, 0, 0, []), (1, .iconst 0, 0, 0, 0, []), (2, .ldc_w 323, 2, 0, 0, []), (5, .invokestatic 115, 72, 3, 1, []), (8, .ifCond .eq (13), 1, 0, 0, []), (11, .iload_n 2, 2, 0, 0, []), (12, .iconst 0, 0, 0, 0, []), (13, .bipush 7, 0, 0, 0, []), (15, .invokestatic 115, 72, 3, 1, []), (18, .ifCond .ne (6), 2, 0, 0, []), (21, .nop, 1, 0, 0, [])])
def mk_b152_1 : List Bool × List mj_I := ([false, false, false, false], [(21, .bipush (-2), 0, 0, 0, []), (23, .ireturn, 0, 0, 0, [])])
def mk_b152_2 : List Bool × List mj_I := ([true, true, true, false], [(24, .aload_n 0, 0, 0, 0, []), (25, .iload_n 1, 1, 0, 0, []), (26, .invokevirtual 324, 150, 2, 0, []), (29, .aload_n 0, 0, 0, 0, []), (30, .iload_n 2, 2, 0, 0, []), (31, .invokevirtual 274, 119, 2, 1, []), (34, .istore_n 3, 3, 0, 0, []), (35, .aload_n 0, 0, 0, 0, []), (36, .invokevirtual 327, 151, 1, 0, []), (39, .iload_n 3, 3, 0, 0, []), (40, .ireturn, 0, 0, 0, [])])
def mk_m152 : Nat × List (List Bool × List mj_I) := (4, [mk_b152_0, mk_b152_1, mk_b152_2])
/-- NumbersCalledModel.lowest(JJI)J -/
def mk_b153_0 : List Bool × List mj_I := ([true, false, true, false, true, false, false, false, false, false, false], [(0, .lload_n 0, 0, 0, 0, []), (1, .lconst 0, 0, 0, 0, []), (2, .lcmp, 0, 0, 0, []), (3, .ifCond .ne (7), 1, 0, 0, []), (6, .iload 4, 4, 0, 0, []), (8, .i2l, 0, 0, 0, []), (9, .lreturn, 0, 0, 0, [])])
def mk_b153_1 : List Bool × List mj_I := ([true, false, true, false, true, false, false, false, false, false, false], [(10, .lload_n 0, 0, 0, 0, []), (11, .lstore 5, 5, 0, 0, []), (13, .lload_n 2, 2, 0, 0, []), (14, .lstore 7, 7, 0, 0, []), (16, .nop, 2, 0, 0, [])])
def mk_b153_2 : List Bool × List mj_I := ([true, false, true, false, true, true, false, true, false, false, false], [(16, .lload 7, 7, 0, 0, []), (18, .lconst 0, 0, 0, 0, []), (19, .lcmp, 0, 0, 0, []), (20, .ifCond .eq (21), 3, 0, 0, []), (23, .lload 5, 5, 0, 0, []), (25, .lload 7, 7, 0, 0, []), (27, .lrem, 0, 0, 0, []), (28, .lstore 9, 9, 0, 0, []), (30, .lload 7, 7, 0, 0, []), (32, .lstore 5, 5, 0, 0, []), (34, .lload 9, 9, 0, 0, []), (36, .lstore 7, 7, 0, 0, []), (38, .goto (-22), 2, 0, 0, [])])
def mk_b153_3 : List Bool × List mj_I := ([true, false, true, false, true, true, false, false, false, false, false], [(41, .iload 4, 4, 0, 0, []), (43, .ifCond .ne (7), 4, 0, 0, []), (46, .lload_n 0, 0, 0, 0, []), (47, .goto (4), 5, 0, 0, [])])
def mk_b153_4 : List Bool × List mj_I := ([false, false, true, false, false, true, false, false, false, false, false], [(50, .lload_n 2, 2, 0, 0, []), (51, .nop, 5, 0, 0, [])])
def mk_b153_5 : List Bool × List mj_I := ([false, false, false, false, false, true, false, false, false, false, false], [(51, .lload 5, 5, 0, 0, []), (53, .ldiv, 0, 0, 0, []), (54, .lreturn, 0, 0, 0, [])])
def mk_m153 : Nat × List (List Bool × List mj_I) := (11, [mk_b153_0, mk_b153_1, mk_b153_2, mk_b153_3, mk_b153_4, mk_b153_5])
/-- NumbersCalledModel.odds(IIII)J -/
def mk_b154_0 : List Bool × List mj_I := ([true, true, true, true, true, false, false, false], [(0, .iload_n 1, 1, 0, 0, []), (1, .iconst 0, 0, 0, 0, []), (2, .ldc_w 323, 2, 0, 0, []), (5, .invokestatic 115, 72, 3, 1, []), (8, .ifCond .eq (34), 1, 0, 0, []), (11, .iload_n 2, 2, 0, 0, []), (12, .iconst 1, 0, 0, 0, []), (13, .bipush 20, 0, 0, 0, []), (15, .invokestatic 115, 72, 3, 1, []), (18, .ifCond .eq (24), 1, 0, 0, []), (21, .iload_n 3, 3, 0, 0, []), (22, .iconst 0, 0, 0, 0, []), (23, .sipush 999, 0, 0, 0, []), (26, .invokestatic 115, 72, 3, 1, []), (29, .ifCond .eq (13), 1, 0, 0, []), (32, .iload 4, 4, 0, 0, []), (34, .iconst 0, 0, 0, 0, []), (35, .iconst 1, 0, 0, 0, []), (36, .invokestatic 115, 72, 3, 1, []), (39, .ifCond .ne (7), 2, 0, 0, []), (42, .nop, 1, 0, 0, [])])
def mk_b154_1 : List Bool × List mj_I := ([false, false, false, false, false, false, false, false], [(42, .ldc2_w 307, 0, 0, 0, []), (45, .lreturn, 0, 0, 0, [])])
def mk_b154_2 : List Bool × List mj_I := ([true, true, true, true, true, false, false, false], [(46, .lconst 0, 0, 0, 0, []), (47, .lstore 5, 5, 0, 0, []), (49, .iconst 0, 0, 0, 0, []), (50, .istore 7, 7, 0, 0, []), (52, .nop, 3, 0, 0, [])])
def mk_b154_3 : List Bool × List mj_I := ([true, true, true, true, true, true, false, true], [(52, .iload 7, 7, 0, 0, []), (54, .iload_n 2, 2, 0, 0, []), (55, .if_icmp .ge (47), 6, 0, 0, []), (58, .aload_n 0, 0, 0, 0, []), (59, .iload_n 1, 1, 0, 0, []), (60, .iload 7, 7, 0, 0, []), (62, .iadd, 0, 0, 0, []), (63, .invokevirtual 324, 150, 2, 0, []), (66, .lload 5, 5, 0, 0, []), (68, .aload_n 0, 0, 0, 0, []), (69, .invokevirtual 271, 117, 1, 1, []), (72, .iload_n 3, 3, 0, 0, []), (73, .if_icmp .gt (15), 4, 0, 0, []), (76, .aload_n 0, 0, 0, 0, []), (77, .iconst 1, 0, 0, 0, []), (78, .invokevirtual 262, 115, 2, 1, []), (81, .ifCond .ne (7), 4, 0, 0, []), (84, .lconst 1, 0, 0, 0, []), (85, .goto (4), 5, 0, 0, [])])
def mk_b154_4 : List Bool × List mj_I := ([true, true, true, true, true, false, false, true], [(88, .lconst 0, 0, 0, 0, []), (89, .nop, 5, 0, 0, [])])
def mk_b154_5 : List Bool × List mj_I := ([true, true, true, true, true, false, false, true], [(89, .ladd, 0, 0, 0, []), (90, .lstore 5, 5, 0, 0, []), (92, .aload_n 0, 0, 0, 0, []), (93, .invokevirtual 327, 151, 1, 0, []), (96, .iinc 7 1, 7, 0, 0, []), (99, .goto (-47), 3, 0, 0, [])])
def mk_b154_6 : List Bool × List mj_I := ([false, false, true, false, true, true, false, false], [(102, .lload 5, 5, 0, 0, []), (104, .iload_n 2, 2, 0, 0, []), (105, .i2l, 0, 0, 0, []), (106, .iload 4, 4, 0, 0, []), (108, .invokestatic 330, 153, 3, 2, []), (111, .lreturn, 0, 0, 0, [])])
def mk_m154 : Nat × List (List Bool × List mj_I) := (8, [mk_b154_0, mk_b154_1, mk_b154_2, mk_b154_3, mk_b154_4, mk_b154_5, mk_b154_6])
/-- NumbersCalledModel.image()I -/
def mk_b155_0 : List Bool × List mj_I := ([true, false], [(0, .aload_n 0, 0, 0, 0, []), (1, .iconst 1, 0, 0, 0, []), (2, .putfield 218, 17, 8, 1, []), (5, .aload_n 0, 0, 0, 0, []), (6, .aload_n 0, 0, 0, 0, []), (7, .getfield 112, 0, 8, 0, []), (10, .putfield 334, 18, 8, 0, []), (13, .aload_n 0, 0, 0, 0, []), (14, .aload_n 0, 0, 0, 0, []), (15, .getfield 134, 2, 8, 0, []), (18, .putfield 337, 19, 8, 0, []), (21, .aload_n 0, 0, 0, 0, []), (22, .aload_n 0, 0, 0, 0, []), (23, .getfield 13, 3, 8, 0, []), (26, .putfield 340, 20, 8, 0, []), (29, .aload_n 0, 0, 0, 0, []), (30, .aload_n 0, 0, 0, 0, []), (31, .getfield 17, 4, 8, 0, []), (34, .putfield 343, 21, 8, 0, []), (37, .aload_n 0, 0, 0, 0, []), (38, .aload_n 0, 0, 0, 0, []), (39, .getfield 119, 5, 8, 0, []), (42, .putfield 222, 22, 8, 0, []), (45, .aload_n 0, 0, 0, 0, []), (46, .aload_n 0, 0, 0, 0, []), (47, .getfield 140, 16, 8, 0, []), (50, .putfield 346, 23, 8, 0, []), (53, .iconst 0, 0, 0, 0, []), (54, .istore_n 1, 1, 0, 0, []), (55, .nop, 1, 0, 0, [])])
def mk_b155_1 : List Bool × List mj_I := ([true, true], [(55, .iload_n 1, 1, 0, 0, []), (56, .bipush 12, 0, 0, 0, []), (58, .if_icmp .ge (21), 2, 0, 0, []), (61, .aload_n 0, 0, 0, 0, []), (62, .getfield 44, 24, 8, 0, []), (65, .iload_n 1, 1, 0, 0, []), (66, .aload_n 0, 0, 0, 0, []), (67, .getfield 7, 1, 8, 0, []), (70, .iload_n 1, 1, 0, 0, []), (71, .iaload, 0, 0, 0, []), (72, .iastore, 0, 0, 0, []), (73, .iinc 1 1, 1, 0, 0, []), (76, .goto (-21), 1, 0, 0, [])])
def mk_b155_2 : List Bool × List mj_I := ([true, false], [(79, .iconst 0, 0, 0, 0, []), (80, .istore_n 1, 1, 0, 0, []), (81, .nop, 3, 0, 0, [])])
def mk_b155_3 : List Bool × List mj_I := ([true, true], [(81, .iload_n 1, 1, 0, 0, []), (82, .bipush 16, 0, 0, 0, []), (84, .if_icmp .ge (21), 4, 0, 0, []), (87, .aload_n 0, 0, 0, 0, []), (88, .getfield 47, 25, 8, 0, []), (91, .iload_n 1, 1, 0, 0, []), (92, .aload_n 0, 0, 0, 0, []), (93, .getfield 32, 10, 8, 0, []), (96, .iload_n 1, 1, 0, 0, []), (97, .iaload, 0, 0, 0, []), (98, .iastore, 0, 0, 0, []), (99, .iinc 1 1, 1, 0, 0, []), (102, .goto (-21), 3, 0, 0, [])])
def mk_b155_4 : List Bool × List mj_I := ([true, false], [(105, .aload_n 0, 0, 0, 0, []), (106, .getfield 119, 5, 8, 0, []), (109, .ireturn, 0, 0, 0, [])])
def mk_m155 : Nat × List (List Bool × List mj_I) := (2, [mk_b155_0, mk_b155_1, mk_b155_2, mk_b155_3, mk_b155_4])
/-- NumbersCalledModel.back()I -/
def mk_b156_0 : List Bool × List mj_I := ([true, false], [(0, .aload_n 0, 0, 0, 0, []), (1, .getfield 218, 17, 8, 1, []), (4, .ifCond .ne (6), 1, 0, 0, []), (7, .bipush (-3), 0, 0, 0, []), (9, .ireturn, 0, 0, 0, [])])
def mk_b156_1 : List Bool × List mj_I := ([true, false], [(10, .aload_n 0, 0, 0, 0, []), (11, .aload_n 0, 0, 0, 0, []), (12, .getfield 334, 18, 8, 0, []), (15, .putfield 112, 0, 8, 0, []), (18, .aload_n 0, 0, 0, 0, []), (19, .aload_n 0, 0, 0, 0, []), (20, .getfield 337, 19, 8, 0, []), (23, .putfield 134, 2, 8, 0, []), (26, .aload_n 0, 0, 0, 0, []), (27, .aload_n 0, 0, 0, 0, []), (28, .getfield 340, 20, 8, 0, []), (31, .putfield 13, 3, 8, 0, []), (34, .aload_n 0, 0, 0, 0, []), (35, .aload_n 0, 0, 0, 0, []), (36, .getfield 343, 21, 8, 0, []), (39, .putfield 17, 4, 8, 0, []), (42, .aload_n 0, 0, 0, 0, []), (43, .aload_n 0, 0, 0, 0, []), (44, .getfield 222, 22, 8, 0, []), (47, .putfield 119, 5, 8, 0, []), (50, .aload_n 0, 0, 0, 0, []), (51, .aload_n 0, 0, 0, 0, []), (52, .getfield 346, 23, 8, 0, []), (55, .putfield 140, 16, 8, 0, []), (58, .iconst 0, 0, 0, 0, []), (59, .istore_n 1, 1, 0, 0, []), (60, .nop, 2, 0, 0, [])])
def mk_b156_2 : List Bool × List mj_I := ([true, true], [(60, .iload_n 1, 1, 0, 0, []), (61, .bipush 12, 0, 0, 0, []), (63, .if_icmp .ge (21), 3, 0, 0, []), (66, .aload_n 0, 0, 0, 0, []), (67, .getfield 7, 1, 8, 0, []), (70, .iload_n 1, 1, 0, 0, []), (71, .aload_n 0, 0, 0, 0, []), (72, .getfield 44, 24, 8, 0, []), (75, .iload_n 1, 1, 0, 0, []), (76, .iaload, 0, 0, 0, []), (77, .iastore, 0, 0, 0, []), (78, .iinc 1 1, 1, 0, 0, []), (81, .goto (-21), 2, 0, 0, [])])
def mk_b156_3 : List Bool × List mj_I := ([true, false], [(84, .iconst 0, 0, 0, 0, []), (85, .istore_n 1, 1, 0, 0, []), (86, .nop, 4, 0, 0, [])])
def mk_b156_4 : List Bool × List mj_I := ([true, true], [(86, .iload_n 1, 1, 0, 0, []), (87, .bipush 16, 0, 0, 0, []), (89, .if_icmp .ge (21), 5, 0, 0, []), (92, .aload_n 0, 0, 0, 0, []), (93, .getfield 32, 10, 8, 0, []), (96, .iload_n 1, 1, 0, 0, []), (97, .aload_n 0, 0, 0, 0, []), (98, .getfield 47, 25, 8, 0, []), (101, .iload_n 1, 1, 0, 0, []), (102, .iaload, 0, 0, 0, []), (103, .iastore, 0, 0, 0, []), (104, .iinc 1 1, 1, 0, 0, []), (107, .goto (-21), 4, 0, 0, [])])
def mk_b156_5 : List Bool × List mj_I := ([true, false], [(110, .aload_n 0, 0, 0, 0, []), (111, .getfield 119, 5, 8, 0, []), (114, .ireturn, 0, 0, 0, [])])
def mk_m156 : Nat × List (List Bool × List mj_I) := (2, [mk_b156_0, mk_b156_1, mk_b156_2, mk_b156_3, mk_b156_4, mk_b156_5])
/-- NumbersCalledModel.sheet(III)I -/
def mk_b157_0 : List Bool × List mj_I := ([true, true, true, true, false], [(0, .iload_n 1, 1, 0, 0, []), (1, .iconst 0, 0, 0, 0, []), (2, .iconst 3, 0, 0, 0, []), (3, .invokestatic 115, 72, 3, 1, []), (6, .ifCond .eq (23), 1, 0, 0, []), (9, .iload_n 2, 2, 0, 0, []), (10, .iconst (-1), 0, 0, 0, []), (11, .iconst 2, 0, 0, 0, []), (12, .invokestatic 115, 72, 3, 1, []), (15, .ifCond .eq (14), 1, 0, 0, []), (18, .iload_n 2, 2, 0, 0, []), (19, .iconst (-1), 0, 0, 0, []), (20, .if_icmp .eq (12), 2, 0, 0, []), (23, .iload_n 3, 3, 0, 0, []), (24, .bipush 40, 0, 0, 0, []), (26, .if_icmp .le (6), 2, 0, 0, []), (29, .nop, 1, 0, 0, [])])
def mk_b157_1 : List Bool × List mj_I := ([false, false, false, false, false], [(29, .bipush (-2), 0, 0, 0, []), (31, .ireturn, 0, 0, 0, [])])
def mk_b157_2 : List Bool × List mj_I := ([true, true, true, true, false], [(32, .iload_n 2, 2, 0, 0, []), (33, .iconst (-1), 0, 0, 0, []), (34, .if_icmp .eq (10), 3, 0, 0, []), (37, .iload_n 3, 3, 0, 0, []), (38, .ifCond .ge (6), 3, 0, 0, []), (41, .bipush (-14), 0, 0, 0, []), (43, .ireturn, 0, 0, 0, [])])
def mk_b157_3 : List Bool × List mj_I := ([true, true, true, true, false], [(44, .aload_n 0, 0, 0, 0, []), (45, .getfield 50, 26, 8, 0, []), (48, .iload_n 1, 1, 0, 0, []), (49, .iload_n 2, 2, 0, 0, []), (50, .iastore, 0, 0, 0, []), (51, .aload_n 0, 0, 0, 0, []), (52, .getfield 53, 27, 8, 0, []), (55, .iload_n 1, 1, 0, 0, []), (56, .iload_n 2, 2, 0, 0, []), (57, .iconst (-1), 0, 0, 0, []), (58, .if_icmp .ne (7), 4, 0, 0, []), (61, .iconst 0, 0, 0, 0, []), (62, .goto (4), 5, 0, 0, [])])
def mk_b157_4 : List Bool × List mj_I := ([true, true, false, true, false], [(65, .iload_n 3, 3, 0, 0, []), (66, .nop, 5, 0, 0, [])])
def mk_b157_5 : List Bool × List mj_I := ([true, true, false, false, false], [(66, .iastore, 0, 0, 0, []), (67, .iconst 0, 0, 0, 0, []), (68, .istore 4, 4, 0, 0, []), (70, .nop, 6, 0, 0, [])])
def mk_b157_6 : List Bool × List mj_I := ([true, true, false, false, true], [(70, .iload 4, 4, 0, 0, []), (72, .bipush 40, 0, 0, 0, []), (74, .if_icmp .ge (22), 7, 0, 0, []), (77, .aload_n 0, 0, 0, 0, []), (78, .getfield 56, 28, 8, 0, []), (81, .bipush 40, 0, 0, 0, []), (83, .iload_n 1, 1, 0, 0, []), (84, .imul, 0, 0, 0, []), (85, .iload 4, 4, 0, 0, []), (87, .iadd, 0, 0, 0, []), (88, .iconst 0, 0, 0, 0, []), (89, .iastore, 0, 0, 0, []), (90, .iinc 4 1, 4, 0, 0, []), (93, .goto (-23), 6, 0, 0, [])])
def mk_b157_7 : List Bool × List mj_I := ([false, false, false, false, false], [(96, .iconst 1, 0, 0, 0, []), (97, .ireturn, 0, 0, 0, [])])
def mk_m157 : Nat × List (List Bool × List mj_I) := (5, [mk_b157_0, mk_b157_1, mk_b157_2, mk_b157_3, mk_b157_4, mk_b157_5, mk_b157_6, mk_b157_7])
/-- NumbersCalledModel.cell(III)I -/
def mk_b158_0 : List Bool × List mj_I := ([true, true, true, true], [(0, .iload_n 1, 1, 0, 0, []), (1, .iconst 0, 0, 0, 0, []), (2, .iconst 3, 0, 0, 0, []), (3, .invokestatic 115, 72, 3, 1, []), (6, .ifCond .ne (6), 1, 0, 0, []), (9, .bipush (-2), 0, 0, 0, []), (11, .ireturn, 0, 0, 0, [])])
def mk_b158_1 : List Bool × List mj_I := ([true, true, true, true], [(12, .aload_n 0, 0, 0, 0, []), (13, .getfield 50, 26, 8, 0, []), (16, .iload_n 1, 1, 0, 0, []), (17, .iaload, 0, 0, 0, []), (18, .iconst (-1), 0, 0, 0, []), (19, .if_icmp .ne (6), 2, 0, 0, []), (22, .bipush (-11), 0, 0, 0, []), (24, .ireturn, 0, 0, 0, [])])
def mk_b158_2 : List Bool × List mj_I := ([true, true, true, true], [(25, .iload_n 2, 2, 0, 0, []), (26, .iconst 0, 0, 0, 0, []), (27, .aload_n 0, 0, 0, 0, []), (28, .getfield 53, 27, 8, 0, []), (31, .iload_n 1, 1, 0, 0, []), (32, .iaload, 0, 0, 0, []), (33, .iconst 1, 0, 0, 0, []), (34, .isub, 0, 0, 0, []), (35, .invokestatic 115, 72, 3, 1, []), (38, .ifCond .ne (6), 3, 0, 0, []), (41, .bipush (-12), 0, 0, 0, []), (43, .ireturn, 0, 0, 0, [])])
def mk_b158_3 : List Bool × List mj_I := ([true, true, true, true], [(44, .aload_n 0, 0, 0, 0, []), (45, .getfield 56, 28, 8, 0, []), (48, .bipush 40, 0, 0, 0, []), (50, .iload_n 1, 1, 0, 0, []), (51, .imul, 0, 0, 0, []), (52, .iload_n 2, 2, 0, 0, []), (53, .iadd, 0, 0, 0, []), (54, .aload_n 0, 0, 0, 0, []), (55, .getfield 50, 26, 8, 0, []), (58, .iload_n 1, 1, 0, 0, []), (59, .iaload, 0, 0, 0, []), (60, .ifCond .ne (8), 4, 0, 0, []), (63, .iload_n 3, 3, 0, 0, []), (64, .i2b, 0, 0, 0, []), (65, .goto (19), 6, 0, 0, [])])
def mk_b158_4 : List Bool × List mj_I := ([true, true, false, true], [(68, .aload_n 0, 0, 0, 0, []), (69, .getfield 50, 26, 8, 0, []), (72, .iload_n 1, 1, 0, 0, []), (73, .iaload, 0, 0, 0, []), (74, .iconst 1, 0, 0, 0, []), (75, .if_icmp .ne (8), 5, 0, 0, []), (78, .iload_n 3, 3, 0, 0, []), (79, .i2s, 0, 0, 0, []), (80, .goto (4), 6, 0, 0, [])])
def mk_b158_5 : List Bool × List mj_I := ([false, false, false, true], [(83, .iload_n 3, 3, 0, 0, []), (84, .nop, 6, 0, 0, [])])
def mk_b158_6 : List Bool × List mj_I := ([false, false, false, false], [(84, .iastore, 0, 0, 0, []), (85, .iconst 1, 0, 0, 0, []), (86, .ireturn, 0, 0, 0, [])])
def mk_m158 : Nat × List (List Bool × List mj_I) := (4, [mk_b158_0, mk_b158_1, mk_b158_2, mk_b158_3, mk_b158_4, mk_b158_5, mk_b158_6])
/-- NumbersCalledModel.copy(IIIII)I -/
def mk_b159_0 : List Bool × List mj_I := ([true, true, true, true, true, true, false, false, false, false], [(0, .iload_n 1, 1, 0, 0, []), (1, .iconst 0, 0, 0, 0, []), (2, .iconst 3, 0, 0, 0, []), (3, .invokestatic 115, 72, 3, 1, []), (6, .ifCond .eq (12), 1, 0, 0, []), (9, .iload_n 3, 3, 0, 0, []), (10, .iconst 0, 0, 0, 0, []), (11, .iconst 3, 0, 0, 0, []), (12, .invokestatic 115, 72, 3, 1, []), (15, .ifCond .ne (6), 2, 0, 0, []), (18, .nop, 1, 0, 0, [])])
def mk_b159_1 : List Bool × List mj_I := ([false, false, false, false, false, false, false, false, false, false], [(18, .bipush (-2), 0, 0, 0, []), (20, .ireturn, 0, 0, 0, [])])
def mk_b159_2 : List Bool × List mj_I := ([true, true, true, true, true, true, false, false, false, false], [(21, .aload_n 0, 0, 0, 0, []), (22, .getfield 50, 26, 8, 0, []), (25, .iload_n 1, 1, 0, 0, []), (26, .iaload, 0, 0, 0, []), (27, .iconst (-1), 0, 0, 0, []), (28, .if_icmp .eq (13), 3, 0, 0, []), (31, .aload_n 0, 0, 0, 0, []), (32, .getfield 50, 26, 8, 0, []), (35, .iload_n 3, 3, 0, 0, []), (36, .iaload, 0, 0, 0, []), (37, .iconst (-1), 0, 0, 0, []), (38, .if_icmp .ne (6), 4, 0, 0, []), (41, .nop, 3, 0, 0, [])])
def mk_b159_3 : List Bool × List mj_I := ([false, false, false, false, false, false, false, false, false, false], [(41, .bipush (-11), 0, 0, 0, []), (43, .ireturn, 0, 0, 0, [])])
def mk_b159_4 : List Bool × List mj_I := ([true, true, true, true, true, true, false, false, false, false], [(44, .aload_n 0, 0, 0, 0, []), (45, .getfield 50, 26, 8, 0, []), (48, .iload_n 1, 1, 0, 0, []), (49, .iaload, 0, 0, 0, []), (50, .aload_n 0, 0, 0, 0, []), (51, .getfield 50, 26, 8, 0, []), (54, .iload_n 3, 3, 0, 0, []), (55, .iaload, 0, 0, 0, []), (56, .if_icmp .eq (6), 5, 0, 0, []), (59, .bipush (-13), 0, 0, 0, []), (61, .ireturn, 0, 0, 0, [])])
def mk_b159_5 : List Bool × List mj_I := ([true, true, true, true, true, true, false, false, false, false], [(62, .iload 5, 5, 0, 0, []), (64, .ifCond .lt (60), 6, 0, 0, []), (67, .iload_n 2, 2, 0, 0, []), (68, .ifCond .lt (56), 6, 0, 0, []), (71, .iload 4, 4, 0, 0, []), (73, .ifCond .lt (51), 6, 0, 0, []), (76, .iload_n 2, 2, 0, 0, []), (77, .aload_n 0, 0, 0, 0, []), (78, .getfield 53, 27, 8, 0, []), (81, .iload_n 1, 1, 0, 0, []), (82, .iaload, 0, 0, 0, []), (83, .if_icmp .gt (41), 6, 0, 0, []), (86, .iload 4, 4, 0, 0, []), (88, .aload_n 0, 0, 0, 0, []), (89, .getfield 53, 27, 8, 0, []), (92, .iload_n 3, 3, 0, 0, []), (93, .iaload, 0, 0, 0, []), (94, .if_icmp .gt (30), 6, 0, 0, []), (97, .iload 5, 5, 0, 0, []), (99, .aload_n 0, 0, 0, 0, []), (100, .getfield 53, 27, 8, 0, []), (103, .iload_n 1, 1, 0, 0, []), (104, .iaload, 0, 0, 0, []), (105, .iload_n 2, 2, 0, 0, []), (106, .isub, 0, 0, 0, []), (107, .if_icmp .gt (17), 6, 0, 0, []), (110, .iload 5, 5, 0, 0, []), (112, .aload_n 0, 0, 0, 0, []), (113, .getfield 53, 27, 8, 0, []), (116, .iload_n 3, 3, 0, 0, []), (117, .iaload, 0, 0, 0, []), (118, .iload 4, 4, 0, 0, []), (120, .isub, 0, 0, 0, []), (121, .if_icmp .le (6), 7, 0, 0, []), (124, .nop, 6, 0, 0, [])])
def mk_b159_6 : List Bool × List mj_I := ([false, false, false, false, false, false, false, false, false, false], [(124, .bipush (-12), 0, 0, 0, []), (126, .ireturn, 0, 0, 0, [])])
def mk_b159_7 : List Bool × List mj_I := ([true, true, true, true, true, true, false, false, false, false], [(127, .bipush 40, 0, 0, 0, []), (129, .iload_n 1, 1, 0, 0, []), (130, .imul, 0, 0, 0, []), (131, .iload_n 2, 2, 0, 0, []), (132, .iadd, 0, 0, 0, []), (133, .istore 6, 6, 0, 0, []), (135, .bipush 40, 0, 0, 0, []), (137, .iload_n 3, 3, 0, 0, []), (138, .imul, 0, 0, 0, []), (139, .iload 4, 4, 0, 0, []), (141, .iadd, 0, 0, 0, []), (142, .istore 7, 7, 0, 0, []), (144, .iconst 0, 0, 0, 0, []), (145, .istore 8, 8, 0, 0, []), (147, .nop, 8, 0, 0, [])])
def mk_b159_8 : List Bool × List mj_I := ([true, false, false, false, false, true, true, true, true, false], [(147, .iload 8, 8, 0, 0, []), (149, .iload 5, 5, 0, 0, []), (151, .if_icmp .ge (50), 11, 0, 0, []), (154, .iload 6, 6, 0, 0, []), (156, .iload 7, 7, 0, 0, []), (158, .if_icmp .ge (13), 9, 0, 0, []), (161, .iload 5, 5, 0, 0, []), (163, .iconst 1, 0, 0, 0, []), (164, .isub, 0, 0, 0, []), (165, .iload 8, 8, 0, 0, []), (167, .isub, 0, 0, 0, []), (168, .goto (5), 10, 0, 0, [])])
def mk_b159_9 : List Bool × List mj_I := ([true, false, false, false, false, true, true, true, true, false], [(171, .iload 8, 8, 0, 0, []), (173, .nop, 10, 0, 0, [])])
def mk_b159_10 : List Bool × List mj_I := ([true, false, false, false, false, true, true, true, true, false], [(173, .istore 9, 9, 0, 0, []), (175, .aload_n 0, 0, 0, 0, []), (176, .getfield 56, 28, 8, 0, []), (179, .iload 7, 7, 0, 0, []), (181, .iload 9, 9, 0, 0, []), (183, .iadd, 0, 0, 0, []), (184, .aload_n 0, 0, 0, 0, []), (185, .getfield 56, 28, 8, 0, []), (188, .iload 6, 6, 0, 0, []), (190, .iload 9, 9, 0, 0, []), (192, .iadd, 0, 0, 0, []), (193, .iaload, 0, 0, 0, []), (194, .iastore, 0, 0, 0, []), (195, .iinc 8 1, 8, 0, 0, []), (198, .goto (-51), 8, 0, 0, [])])
def mk_b159_11 : List Bool × List mj_I := ([false, false, false, false, false, true, false, false, false, false], [(201, .iload 5, 5, 0, 0, []), (203, .ireturn, 0, 0, 0, [])])
def mk_m159 : Nat × List (List Bool × List mj_I) := (10, [mk_b159_0, mk_b159_1, mk_b159_2, mk_b159_3, mk_b159_4, mk_b159_5, mk_b159_6, mk_b159_7, mk_b159_8, mk_b159_9, mk_b159_10, mk_b159_11])
/-- NumbersCalledModel.pulls(IIII)I -/
def mk_b160_0 : List Bool × List mj_I := ([true, true, true, true, true, false, false, false, false], [(0, .iload_n 1, 1, 0, 0, []), (1, .iconst 0, 0, 0, 0, []), (2, .iconst 3, 0, 0, 0, []), (3, .invokestatic 115, 72, 3, 1, []), (6, .ifCond .eq (23), 1, 0, 0, []), (9, .iload_n 2, 2, 0, 0, []), (10, .iconst 0, 0, 0, 0, []), (11, .iconst 2, 0, 0, 0, []), (12, .invokestatic 115, 72, 3, 1, []), (15, .ifCond .eq (14), 1, 0, 0, []), (18, .iload 4, 4, 0, 0, []), (20, .iconst 0, 0, 0, 0, []), (21, .bipush 13, 0, 0, 0, []), (23, .invokestatic 115, 72, 3, 1, []), (26, .ifCond .ne (6), 2, 0, 0, []), (29, .nop, 1, 0, 0, [])])
def mk_b160_1 : List Bool × List mj_I := ([false, false, false, false, false, false, false, false, false], [(29, .bipush (-2), 0, 0, 0, []), (31, .ireturn, 0, 0, 0, [])])
def mk_b160_2 : List Bool × List mj_I := ([true, true, true, true, true, false, false, false, false], [(32, .aload_n 0, 0, 0, 0, []), (33, .getfield 50, 26, 8, 0, []), (36, .iload_n 1, 1, 0, 0, []), (37, .iaload, 0, 0, 0, []), (38, .iconst (-1), 0, 0, 0, []), (39, .if_icmp .ne (6), 3, 0, 0, []), (42, .bipush (-11), 0, 0, 0, []), (44, .ireturn, 0, 0, 0, [])])
def mk_b160_3 : List Bool × List mj_I := ([true, true, true, true, true, false, false, false, false], [(45, .aload_n 0, 0, 0, 0, []), (46, .getfield 50, 26, 8, 0, []), (49, .iload_n 1, 1, 0, 0, []), (50, .iaload, 0, 0, 0, []), (51, .iload_n 2, 2, 0, 0, []), (52, .if_icmp .eq (6), 4, 0, 0, []), (55, .bipush (-13), 0, 0, 0, []), (57, .ireturn, 0, 0, 0, [])])
def mk_b160_4 : List Bool × List mj_I := ([true, true, false, true, true, false, false, false, false], [(58, .iconst 0, 0, 0, 0, []), (59, .istore 5, 5, 0, 0, []), (61, .iconst 0, 0, 0, 0, []), (62, .istore 6, 6, 0, 0, []), (64, .nop, 5, 0, 0, [])])
def mk_b160_5 : List Bool × List mj_I := ([true, true, false, true, true, true, true, false, false], [(64, .iload 6, 6, 0, 0, []), (66, .iload 4, 4, 0, 0, []), (68, .if_icmp .ge (94), 10, 0, 0, []), (71, .iload_n 3, 3, 0, 0, []), (72, .iconst 3, 0, 0, 0, []), (73, .iload 6, 6, 0, 0, []), (75, .imul, 0, 0, 0, []), (76, .iadd, 0, 0, 0, []), (77, .istore 7, 7, 0, 0, []), (79, .iload_n 3, 3, 0, 0, []), (80, .ifCond .lt (22), 6, 0, 0, []), (83, .iload 7, 7, 0, 0, []), (85, .iload_n 3, 3, 0, 0, []), (86, .if_icmp .lt (16), 6, 0, 0, []), (89, .iload 7, 7, 0, 0, []), (91, .aload_n 0, 0, 0, 0, []), (92, .getfield 53, 27, 8, 0, []), (95, .iload_n 1, 1, 0, 0, []), (96, .iaload, 0, 0, 0, []), (97, .iconst 3, 0, 0, 0, []), (98, .isub, 0, 0, 0, []), (99, .if_icmp .le (6), 7, 0, 0, []), (102, .nop, 6, 0, 0, [])])
def mk_b160_6 : List Bool × List mj_I := ([false, false, false, false, false, false, false, false, false], [(102, .bipush (-12), 0, 0, 0, []), (104, .ireturn, 0, 0, 0, [])])
def mk_b160_7 : List Bool × List mj_I := ([true, true, false, true, true, true, true, true, false], [(105, .bipush 40, 0, 0, 0, []), (107, .iload_n 1, 1, 0, 0, []), (108, .imul, 0, 0, 0, []), (109, .iload 7, 7, 0, 0, []), (111, .iadd, 0, 0, 0, []), (112, .istore 8, 8, 0, 0, []), (114, .iload 5, 5, 0, 0, []), (116, .aload_n 0, 0, 0, 0, []), (117, .aload_n 0, 0, 0, 0, []), (118, .getfield 56, 28, 8, 0, []), (121, .iload 8, 8, 0, 0, []), (123, .iaload, 0, 0, 0, []), (124, .aload_n 0, 0, 0, 0, []), (125, .getfield 56, 28, 8, 0, []), (128, .iload 8, 8, 0, 0, []), (130, .iconst 1, 0, 0, 0, []), (131, .iadd, 0, 0, 0, []), (132, .iaload, 0, 0, 0, []), (133, .aload_n 0, 0, 0, 0, []), (134, .getfield 56, 28, 8, 0, []), (137, .iload 8, 8, 0, 0, []), (139, .iconst 2, 0, 0, 0, []), (140, .iadd, 0, 0, 0, []), (141, .iaload, 0, 0, 0, []), (142, .invokevirtual 349, 99, 4, 1, []), (145, .ifCond .lt (7), 8, 0, 0, []), (148, .iconst 1, 0, 0, 0, []), (149, .goto (4), 9, 0, 0, [])])
def mk_b160_8 : List Bool × List mj_I := ([true, true, false, true, true, false, true, false, false], [(152, .iconst 0, 0, 0, 0, []), (153, .nop, 9, 0, 0, [])])
def mk_b160_9 : List Bool × List mj_I := ([true, true, false, true, true, false, true, false, false], [(153, .iadd, 0, 0, 0, []), (154, .istore 5, 5, 0, 0, []), (156, .iinc 6 1, 6, 0, 0, []), (159, .goto (-95), 5, 0, 0, [])])
def mk_b160_10 : List Bool × List mj_I := ([false, false, false, false, false, true, false, false, false], [(162, .iload 5, 5, 0, 0, []), (164, .ireturn, 0, 0, 0, [])])
def mk_m160 : Nat × List (List Bool × List mj_I) := (9, [mk_b160_0, mk_b160_1, mk_b160_2, mk_b160_3, mk_b160_4, mk_b160_5, mk_b160_6, mk_b160_7, mk_b160_8, mk_b160_9, mk_b160_10])
/-- NumbersCalledModel.isUnder(II)Z -/
def mk_b161_0 : List Bool × List mj_I := ([true, true], [(0, .iload_n 1, 1, 0, 0, []), (1, .ifCond .eq (28), 2, 0, 0, []), (4, .iload_n 0, 0, 0, 0, []), (5, .iload_n 1, 1, 0, 0, []), (6, .if_icmp .eq (23), 2, 0, 0, []), (9, .iload_n 1, 1, 0, 0, []), (10, .iconst 2, 0, 0, 0, []), (11, .if_icmp .ne (8), 1, 0, 0, []), (14, .iload_n 0, 0, 0, 0, []), (15, .iconst 3, 0, 0, 0, []), (16, .if_icmp .eq (13), 2, 0, 0, []), (19, .nop, 1, 0, 0, [])])
def mk_b161_1 : List Bool × List mj_I := ([true, true], [(19, .iload_n 1, 1, 0, 0, []), (20, .iconst 1, 0, 0, 0, []), (21, .if_icmp .ne (12), 3, 0, 0, []), (24, .iload_n 0, 0, 0, 0, []), (25, .iconst 5, 0, 0, 0, []), (26, .if_icmp .ne (7), 3, 0, 0, []), (29, .nop, 2, 0, 0, [])])
def mk_b161_2 : List Bool × List mj_I := ([false, false], [(29, .iconst 1, 0, 0, 0, []), (30, .goto (4), 4, 0, 0, [])])
def mk_b161_3 : List Bool × List mj_I := ([false, false], [(33, .iconst 0, 0, 0, 0, []), (34, .nop, 4, 0, 0, [])])
def mk_b161_4 : List Bool × List mj_I := ([false, false], [(34, .ireturn, 0, 0, 1, [])])
def mk_m161 : Nat × List (List Bool × List mj_I) := (2, [mk_b161_0, mk_b161_1, mk_b161_2, mk_b161_3, mk_b161_4])
/-- NumbersCalledModel.taken(II)I -/
def mk_b162_0 : List Bool × List mj_I := ([true, true, true], [(0, .iload_n 2, 2, 0, 0, []), (1, .iconst 0, 0, 0, 0, []), (2, .bipush 6, 0, 0, 0, []), (4, .invokestatic 115, 72, 3, 1, []), (7, .ifCond .ne (6), 1, 0, 0, []), (10, .bipush (-2), 0, 0, 0, []), (12, .ireturn, 0, 0, 0, [])])
def mk_b162_1 : List Bool × List mj_I := ([true, true, true], [(13, .iload_n 1, 1, 0, 0, []), (14, .iconst 0, 0, 0, 0, []), (15, .bipush 19, 0, 0, 0, []), (17, .invokestatic 115, 72, 3, 1, []), (20, .ifCond .ne (6), 2, 0, 0, []), (23, .bipush (-12), 0, 0, 0, []), (25, .ireturn, 0, 0, 0, [])])
def mk_b162_2 : List Bool × List mj_I := ([true, true, true], [(26, .iload_n 1, 1, 0, 0, []), (27, .iconst 4, 0, 0, 0, []), (28, .if_icmp .ge (36), 6, 0, 0, []), (31, .iload_n 1, 1, 0, 0, []), (32, .aload_n 0, 0, 0, 0, []), (33, .getfield 112, 0, 8, 0, []), (36, .if_icmp .lt (8), 3, 0, 0, []), (39, .bipush (-11), 0, 0, 0, []), (41, .goto (22), 5, 0, 0, [])])
def mk_b162_3 : List Bool × List mj_I := ([true, true, true], [(44, .iload_n 2, 2, 0, 0, []), (45, .bipush 6, 0, 0, 0, []), (47, .if_icmp .ne (14), 4, 0, 0, []), (50, .aload_n 0, 0, 0, 0, []), (51, .getfield 7, 1, 8, 0, []), (54, .iconst 3, 0, 0, 0, []), (55, .iload_n 1, 1, 0, 0, []), (56, .imul, 0, 0, 0, []), (57, .iaload, 0, 0, 0, []), (58, .goto (5), 5, 0, 0, [])])
def mk_b162_4 : List Bool × List mj_I := ([false, false, false], [(61, .bipush (-13), 0, 0, 0, []), (63, .nop, 5, 0, 0, [])])
def mk_b162_5 : List Bool × List mj_I := ([false, false, false], [(63, .ireturn, 0, 0, 0, [])])
def mk_b162_6 : List Bool × List mj_I := ([true, true, true], [(64, .iload_n 1, 1, 0, 0, []), (65, .iconst 4, 0, 0, 0, []), (66, .isub, 0, 0, 0, []), (67, .aload_n 0, 0, 0, 0, []), (68, .getfield 119, 5, 8, 0, []), (71, .if_icmp .lt (8), 7, 0, 0, []), (74, .bipush (-11), 0, 0, 0, []), (76, .goto (32), 9, 0, 0, [])])
def mk_b162_7 : List Bool × List mj_I := ([true, true, true], [(79, .iload_n 2, 2, 0, 0, []), (80, .bipush 6, 0, 0, 0, []), (82, .if_icmp .ge (24), 8, 0, 0, []), (85, .aload_n 0, 0, 0, 0, []), (86, .getfield 20, 6, 8, 0, []), (89, .iload_n 1, 1, 0, 0, []), (90, .iconst 4, 0, 0, 0, []), (91, .isub, 0, 0, 0, []), (92, .iaload, 0, 0, 0, []), (93, .iload_n 2, 2, 0, 0, []), (94, .invokestatic 352, 161, 2, 1, []), (97, .ifCond .eq (9), 8, 0, 0, []), (100, .iload_n 1, 1, 0, 0, []), (101, .iconst 4, 0, 0, 0, []), (102, .isub, 0, 0, 0, []), (103, .goto (5), 9, 0, 0, [])])
def mk_b162_8 : List Bool × List mj_I := ([false, false, false], [(106, .bipush (-13), 0, 0, 0, []), (108, .nop, 9, 0, 0, [])])
def mk_b162_9 : List Bool × List mj_I := ([false, false, false], [(108, .ireturn, 0, 0, 0, [])])
def mk_m162 : Nat × List (List Bool × List mj_I) := (3, [mk_b162_0, mk_b162_1, mk_b162_2, mk_b162_3, mk_b162_4, mk_b162_5, mk_b162_6, mk_b162_7, mk_b162_8, mk_b162_9])
/-- NumbersCalled$Asker.become(IIII)V -/
def mk_b163_0 : List Bool × List mj_I := ([true, true, true, true, true], [(0, .aload_n 0, 0, 0, 0, []), (1, .iload_n 1, 1, 0, 0, []), (2, .putfield 9, 0, 0, 0, []), (5, .aload_n 0, 0, 0, 0, []), (6, .iload_n 2, 2, 0, 0, []), (7, .putfield 15, 1, 0, 0, []), (10, .aload_n 0, 0, 0, 0, []), (11, .iload_n 3, 3, 0, 0, []), (12, .putfield 18, 2, 0, 0, []), (15, .aload_n 0, 0, 0, 0, []), (16, .iload 4, 4, 0, 0, []), (18, .putfield 21, 3, 0, 0, []), (21, .return_, 0, 0, 0, [])])
def mk_m163 : Nat × List (List Bool × List mj_I) := (5, [mk_b163_0])
/-- NumbersCalled$Asker.isA(I)Z -/
def mk_b164_0 : List Bool × List mj_I := ([true, true, false, false], [(0, .aload_n 0, 0, 0, 0, []), (1, .getfield 9, 0, 0, 0, []), (4, .istore_n 2, 2, 0, 0, []), (5, .iconst 0, 0, 0, 0, []), (6, .istore_n 3, 3, 0, 0, []), (7, .nop, 1, 0, 0, [])])
def mk_b164_1 : List Bool × List mj_I := ([false, true, true, true], [(7, .iload_n 3, 3, 0, 0, []), (8, .bipush 6, 0, 0, 0, []), (10, .if_icmp .ge (32), 3, 0, 0, []), (13, .iload_n 2, 2, 0, 0, []), (14, .ifCond .lt (28), 3, 0, 0, []), (17, .iload_n 2, 2, 0, 0, []), (18, .bipush 6, 0, 0, 0, []), (20, .if_icmp .ge (22), 3, 0, 0, []), (23, .iload_n 2, 2, 0, 0, []), (24, .iload_n 1, 1, 0, 0, []), (25, .if_icmp .ne (5), 2, 0, 0, []), (28, .iconst 1, 0, 0, 0, []), (29, .ireturn, 0, 0, 1, [])])
def mk_b164_2 : List Bool × List mj_I := ([false, true, true, true], [(30, .getstatic 24, 64, 0, 0, []), (33, .iload_n 2, 2, 0, 0, []), (34, .iaload, 0, 0, 0, []), (35, .istore_n 2, 2, 0, 0, []), (36, .iinc 3 1, 3, 0, 0, []), (39, .goto (-32), 1, 0, 0, [])])
def mk_b164_3 : List Bool × List mj_I := ([false, false, false, false], [(42, .iconst 0, 0, 0, 0, []), (43, .ireturn, 0, 0, 1, [])])
def mk_m164 : Nat × List (List Bool × List mj_I) := (4, [mk_b164_0, mk_b164_1, mk_b164_2, mk_b164_3])
/-- NumbersCalled$Asker.isOld()Z -/
def mk_b165_0 : List Bool × List mj_I := ([true], [(0, .aload_n 0, 0, 0, 0, []), (1, .getfield 9, 0, 0, 0, []), (4, .iconst 4, 0, 0, 0, []), (5, .if_icmp .ne (7), 1, 0, 0, []), (8, .iconst 1, 0, 0, 0, []), (9, .goto (4), 2, 0, 0, [])])
def mk_b165_1 : List Bool × List mj_I := ([false], [(12, .iconst 0, 0, 0, 0, []), (13, .nop, 2, 0, 0, [])])
def mk_b165_2 : List Bool × List mj_I := ([false], [(13, .ireturn, 0, 0, 1, [])])
def mk_m165 : Nat × List (List Bool × List mj_I) := (1, [mk_b165_0, mk_b165_1, mk_b165_2])
/-- NumbersCalled$Asker.isBack()Z -/
def mk_b166_0 : List Bool × List mj_I := ([true], [(0, .aload_n 0, 0, 0, 0, []), (1, .getfield 9, 0, 0, 0, []), (4, .iconst 3, 0, 0, 0, []), (5, .if_icmp .ne (7), 1, 0, 0, []), (8, .iconst 1, 0, 0, 0, []), (9, .goto (4), 2, 0, 0, [])])
def mk_b166_1 : List Bool × List mj_I := ([false], [(12, .iconst 0, 0, 0, 0, []), (13, .nop, 2, 0, 0, [])])
def mk_b166_2 : List Bool × List mj_I := ([false], [(13, .ireturn, 0, 0, 1, [])])
def mk_m166 : Nat × List (List Bool × List mj_I) := (1, [mk_b166_0, mk_b166_1, mk_b166_2])
/-- NumbersCalled$Asker.needs()I -/
def mk_b167_0 : List Bool × List mj_I := ([true], [(0, .aload_n 0, 0, 0, 0, []), (1, .getfield 9, 0, 0, 0, []), (4, .iconst 2, 0, 0, 0, []), (5, .if_icmp .ne (14), 1, 0, 0, []), (8, .aload_n 0, 0, 0, 0, []), (9, .getfield 15, 1, 0, 0, []), (12, .iconst 1, 0, 0, 0, []), (13, .iadd, 0, 0, 0, []), (14, .iconst 4, 0, 0, 0, []), (15, .irem, 0, 0, 0, []), (16, .goto (7), 2, 0, 0, [])])
def mk_b167_1 : List Bool × List mj_I := ([true], [(19, .aload_n 0, 0, 0, 0, []), (20, .getfield 15, 1, 0, 0, []), (23, .nop, 2, 0, 0, [])])
def mk_b167_2 : List Bool × List mj_I := ([false], [(23, .ireturn, 0, 0, 0, [])])
def mk_m167 : Nat × List (List Bool × List mj_I) := (1, [mk_b167_0, mk_b167_1, mk_b167_2])
/-- NumbersCalled$Asker.isThere(II)Z -/
def mk_b168_0 : List Bool × List mj_I := ([true, true, true, false], [(0, .aload_n 0, 0, 0, 0, []), (1, .getfield 9, 0, 0, 0, []), (4, .iconst 5, 0, 0, 0, []), (5, .if_icmp .ne (11), 1, 0, 0, []), (8, .iload_n 1, 1, 0, 0, []), (9, .bipush 30, 0, 0, 0, []), (11, .if_icmp .lt (5), 1, 0, 0, []), (14, .iconst 1, 0, 0, 0, []), (15, .ireturn, 0, 0, 1, [])])
def mk_b168_1 : List Bool × List mj_I := ([true, true, true, false], [(16, .iload_n 1, 1, 0, 0, []), (17, .iload_n 2, 2, 0, 0, []), (18, .iconst 0, 0, 0, 0, []), (19, .sipush 999, 0, 0, 0, []), (22, .invokestatic 28, 45, 3, 1, []), (25, .if_icmp .le (5), 2, 0, 0, []), (28, .iconst 0, 0, 0, 0, []), (29, .ireturn, 0, 0, 1, [])])
def mk_b168_2 : List Bool × List mj_I := ([true, true, false, false], [(30, .aload_n 0, 0, 0, 0, []), (31, .getfield 9, 0, 0, 0, []), (34, .iconst 1, 0, 0, 0, []), (35, .if_icmp .eq (11), 3, 0, 0, []), (38, .aload_n 0, 0, 0, 0, []), (39, .getfield 9, 0, 0, 0, []), (42, .iconst 5, 0, 0, 0, []), (43, .if_icmp .ne (7), 4, 0, 0, []), (46, .nop, 3, 0, 0, [])])
def mk_b168_3 : List Bool × List mj_I := ([true, true, false, false], [(46, .iconst 1, 0, 0, 0, []), (47, .goto (4), 5, 0, 0, [])])
def mk_b168_4 : List Bool × List mj_I := ([true, true, false, false], [(50, .iconst 0, 0, 0, 0, []), (51, .nop, 5, 0, 0, [])])
def mk_b168_5 : List Bool × List mj_I := ([true, true, false, false], [(51, .istore_n 3, 3, 0, 0, []), (52, .iload_n 3, 3, 0, 0, []), (53, .ifCond .eq (20), 6, 0, 0, []), (56, .iload_n 1, 1, 0, 0, []), (57, .iconst 2, 0, 0, 0, []), (58, .aload_n 0, 0, 0, 0, []), (59, .getfield 21, 3, 0, 0, []), (62, .iconst 2, 0, 0, 0, []), (63, .iadd, 0, 0, 0, []), (64, .invokestatic 32, 0, 0, 5, []), (67, .idiv, 0, 0, 0, []), (68, .iconst 2, 0, 0, 0, []), (69, .irem, 0, 0, 0, []), (70, .ifCond .ne (7), 7, 0, 0, []), (73, .nop, 6, 0, 0, [])])
def mk_b168_6 : List Bool × List mj_I := ([false, false, false, false], [(73, .iconst 1, 0, 0, 0, []), (74, .goto (4), 8, 0, 0, [])])
def mk_b168_7 : List Bool × List mj_I := ([false, false, false, false], [(77, .iconst 0, 0, 0, 0, []), (78, .nop, 8, 0, 0, [])])
def mk_b168_8 : List Bool × List mj_I := ([false, false, false, false], [(78, .ireturn, 0, 0, 1, [])])
def mk_m168 : Nat × List (List Bool × List mj_I) := (4, [mk_b168_0, mk_b168_1, mk_b168_2, mk_b168_3, mk_b168_4, mk_b168_5, mk_b168_6, mk_b168_7, mk_b168_8])
/-- NumbersCalled$Asker.takes(IZ)I -/
def mk_b169_0 : List Bool × List mj_I := ([true, true, true, false], [(0, .iload_n 1, 1, 0, 0, []), (1, .iconst 1, 0, 0, 0, []), (2, .bipush 60, 0, 0, 0, []), (4, .invokestatic 28, 45, 3, 1, []), (7, .istore_n 3, 3, 0, 0, []), (8, .aload_n 0, 0, 0, 0, []), (9, .getfield 9, 0, 0, 0, []), (12, .iconst 3, 0, 0, 0, []), (13, .if_icmp .ne (19), 1, 0, 0, []), (16, .iload_n 2, 2, 0, 0, []), (17, .ifCond .ne (15), 1, 0, 0, []), (20, .iconst 2, 0, 0, 0, []), (21, .iload_n 3, 3, 0, 0, []), (22, .imul, 0, 0, 0, []), (23, .iconst 1, 0, 0, 0, []), (24, .bipush 60, 0, 0, 0, []), (26, .invokestatic 28, 45, 3, 1, []), (29, .goto (4), 2, 0, 0, [])])
def mk_b169_1 : List Bool × List mj_I := ([false, false, false, true], [(32, .iload_n 3, 3, 0, 0, []), (33, .nop, 2, 0, 0, [])])
def mk_b169_2 : List Bool × List mj_I := ([false, false, false, false], [(33, .ireturn, 0, 0, 0, [])])
def mk_m169 : Nat × List (List Bool × List mj_I) := (4, [mk_b169_0, mk_b169_1, mk_b169_2])
/-- NumbersCalled$Day.run([LNumbersCalled$Asker;LNumbersCalled$Text;)V -/
def mk_b170_0 : List Bool × List mj_I := ([true, true, true, false, false, false], [(0, .aload_n 0, 0, 0, 0, []), (1, .aload_n 1, 1, 0, 0, []), (2, .invokevirtual 53, 171, 2, 0, []), (5, .iconst 0, 0, 0, 0, []), (6, .istore_n 3, 3, 0, 0, []), (7, .nop, 1, 0, 0, [])])
def mk_b170_1 : List Bool × List mj_I := ([true, true, true, true, false, false], [(7, .iload_n 3, 3, 0, 0, []), (8, .sipush 240, 0, 0, 0, []), (11, .if_icmp .ge (119), 8, 0, 0, []), (14, .aload_n 0, 0, 0, 0, []), (15, .getfield 46, 10, 1, 0, []), (18, .ifCond .le (8), 2, 0, 0, []), (21, .aload_n 0, 0, 0, 0, []), (22, .iload_n 3, 3, 0, 0, []), (23, .invokevirtual 57, 174, 2, 0, []), (26, .nop, 2, 0, 0, [])])
def mk_b170_2 : List Bool × List mj_I := ([true, true, true, true, false, false], [(26, .iconst 0, 0, 0, 0, []), (27, .istore 4, 4, 0, 0, []), (29, .nop, 3, 0, 0, [])])
def mk_b170_3 : List Bool × List mj_I := ([true, true, true, true, true, false], [(29, .iload 4, 4, 0, 0, []), (31, .aload_n 0, 0, 0, 0, []), (32, .getfield 12, 0, 1, 0, []), (35, .getfield 61, 0, 3, 0, []), (38, .if_icmp .ge (86), 7, 0, 0, []), (41, .iload_n 3, 3, 0, 0, []), (42, .aload_n 0, 0, 0, 0, []), (43, .getfield 40, 8, 1, 0, []), (46, .iload 4, 4, 0, 0, []), (48, .iaload, 0, 0, 0, []), (49, .if_icmp .lt (69), 6, 0, 0, []), (52, .aload_n 0, 0, 0, 0, []), (53, .getfield 12, 0, 1, 0, []), (56, .iload 4, 4, 0, 0, []), (58, .iload_n 3, 3, 0, 0, []), (59, .invokevirtual 64, 193, 3, 1, []), (62, .ifCond .eq (6), 4, 0, 0, []), (65, .goto (53), 6, 0, 0, [])])
def mk_b170_4 : List Bool × List mj_I := ([true, true, true, true, true, false], [(68, .aload_n 0, 0, 0, 0, []), (69, .aload_n 0, 0, 0, 0, []), (70, .getfield 12, 0, 1, 0, []), (73, .getfield 68, 1, 3, 0, []), (76, .iload 4, 4, 0, 0, []), (78, .iaload, 0, 0, 0, []), (79, .invokevirtual 71, 176, 2, 1, []), (82, .istore 5, 5, 0, 0, []), (84, .iload 5, 5, 0, 0, []), (86, .iconst (-1), 0, 0, 0, []), (87, .if_icmp .ne (17), 5, 0, 0, []), (90, .aload_n 0, 0, 0, 0, []), (91, .getfield 34, 6, 1, 0, []), (94, .iload 4, 4, 0, 0, []), (96, .dup2, 0, 0, 0, []), (97, .iaload, 0, 0, 0, []), (98, .iconst 1, 0, 0, 0, []), (99, .iadd, 0, 0, 0, []), (100, .iastore, 0, 0, 0, []), (101, .goto (17), 6, 0, 0, [])])
def mk_b170_5 : List Bool × List mj_I := ([true, true, true, true, true, true], [(104, .aload_n 0, 0, 0, 0, []), (105, .aload_n 1, 1, 0, 0, []), (106, .iload 5, 5, 0, 0, []), (108, .aaload, 0, 0, 0, []), (109, .aload_n 2, 2, 0, 0, []), (110, .iload 5, 5, 0, 0, []), (112, .iload 4, 4, 0, 0, []), (114, .iload_n 3, 3, 0, 0, []), (115, .invokevirtual 75, 177, 6, 0, []), (118, .nop, 6, 0, 0, [])])
def mk_b170_6 : List Bool × List mj_I := ([true, true, true, true, true, false], [(118, .iinc 4 1, 4, 0, 0, []), (121, .goto (-92), 3, 0, 0, [])])
def mk_b170_7 : List Bool × List mj_I := ([true, true, true, true, false, false], [(124, .iinc 3 1, 3, 0, 0, []), (127, .goto (-120), 1, 0, 0, [])])
def mk_b170_8 : List Bool × List mj_I := ([false, false, false, false, false, false], [(130, .return_, 0, 0, 0, [])])
def mk_m170 : Nat × List (List Bool × List mj_I) := (6, [mk_b170_0, mk_b170_1, mk_b170_2, mk_b170_3, mk_b170_4, mk_b170_5, mk_b170_6, mk_b170_7, mk_b170_8])
/-- NumbersCalled$Day.begin([LNumbersCalled$Asker;)V -/
def mk_b171_0 : List Bool × List mj_I := ([true, true, false], [(0, .iconst 0, 0, 0, 0, []), (1, .istore_n 2, 2, 0, 0, []), (2, .nop, 1, 0, 0, [])])
def mk_b171_1 : List Bool × List mj_I := ([true, true, true], [(2, .iload_n 2, 2, 0, 0, []), (3, .aload_n 0, 0, 0, 0, []), (4, .getfield 12, 0, 1, 0, []), (7, .getfield 61, 0, 3, 0, []), (10, .if_icmp .ge (23), 2, 0, 0, []), (13, .aload_n 0, 0, 0, 0, []), (14, .getfield 40, 8, 1, 0, []), (17, .iload_n 2, 2, 0, 0, []), (18, .iconst 0, 0, 0, 0, []), (19, .iastore, 0, 0, 0, []), (20, .aload_n 0, 0, 0, 0, []), (21, .getfield 34, 6, 1, 0, []), (24, .iload_n 2, 2, 0, 0, []), (25, .iconst 0, 0, 0, 0, []), (26, .iastore, 0, 0, 0, []), (27, .iinc 2 1, 2, 0, 0, []), (30, .goto (-28), 1, 0, 0, [])])
def mk_b171_2 : List Bool × List mj_I := ([true, true, false], [(33, .iconst 0, 0, 0, 0, []), (34, .istore_n 2, 2, 0, 0, []), (35, .nop, 3, 0, 0, [])])
def mk_b171_3 : List Bool × List mj_I := ([true, true, true], [(35, .iload_n 2, 2, 0, 0, []), (36, .aload_n 0, 0, 0, 0, []), (37, .getfield 12, 0, 1, 0, []), (40, .getfield 79, 4, 3, 0, []), (43, .if_icmp .ge (105), 6, 0, 0, []), (46, .aload_n 0, 0, 0, 0, []), (47, .getfield 18, 1, 1, 0, []), (50, .iload_n 2, 2, 0, 0, []), (51, .iconst 0, 0, 0, 0, []), (52, .iastore, 0, 0, 0, []), (53, .aload_n 0, 0, 0, 0, []), (54, .getfield 22, 2, 1, 0, []), (57, .iload_n 2, 2, 0, 0, []), (58, .iconst (-1), 0, 0, 0, []), (59, .iastore, 0, 0, 0, []), (60, .aload_n 0, 0, 0, 0, []), (61, .getfield 25, 3, 1, 0, []), (64, .iload_n 2, 2, 0, 0, []), (65, .iconst (-1), 0, 0, 0, []), (66, .iastore, 0, 0, 0, []), (67, .aload_n 0, 0, 0, 0, []), (68, .getfield 28, 4, 1, 0, []), (71, .iload_n 2, 2, 0, 0, []), (72, .iconst (-1), 0, 0, 0, []), (73, .iastore, 0, 0, 0, []), (74, .aload_n 0, 0, 0, 0, []), (75, .getfield 31, 5, 1, 0, []), (78, .iload_n 2, 2, 0, 0, []), (79, .iconst 0, 0, 0, 0, []), (80, .iastore, 0, 0, 0, []), (81, .aload_n 0, 0, 0, 0, []), (82, .getfield 37, 7, 1, 0, []), (85, .iload_n 2, 2, 0, 0, []), (86, .aload_n 0, 0, 0, 0, []), (87, .getfield 12, 0, 1, 0, []), (90, .getfield 82, 11, 3, 1, []), (93, .ifCond .eq (12), 4, 0, 0, []), (96, .aload_n 1, 1, 0, 0, []), (97, .iload_n 2, 2, 0, 0, []), (98, .aaload, 0, 0, 0, []), (99, .invokevirtual 86, 167, 1, 1, []), (102, .goto (9), 5, 0, 0, [])])
def mk_b171_4 : List Bool × List mj_I := ([true, true, true], [(105, .aload_n 1, 1, 0, 0, []), (106, .iload_n 2, 2, 0, 0, []), (107, .aaload, 0, 0, 0, []), (108, .getfield 92, 1, 0, 0, []), (111, .nop, 5, 0, 0, [])])
def mk_b171_5 : List Bool × List mj_I := ([true, true, true], [(111, .iastore, 0, 0, 0, []), (112, .aload_n 0, 0, 0, 0, []), (113, .iload_n 2, 2, 0, 0, []), (114, .aload_n 0, 0, 0, 0, []), (115, .aload_n 1, 1, 0, 0, []), (116, .iload_n 2, 2, 0, 0, []), (117, .aaload, 0, 0, 0, []), (118, .invokevirtual 95, 172, 2, 1, []), (121, .bipush 120, 0, 0, 0, []), (123, .imul, 0, 0, 0, []), (124, .aload_n 0, 0, 0, 0, []), (125, .getfield 12, 0, 1, 0, []), (128, .getfield 99, 5, 3, 0, []), (131, .iload_n 2, 2, 0, 0, []), (132, .iaload, 0, 0, 0, []), (133, .iadd, 0, 0, 0, []), (134, .bipush 16, 0, 0, 0, []), (136, .imul, 0, 0, 0, []), (137, .iload_n 2, 2, 0, 0, []), (138, .iadd, 0, 0, 0, []), (139, .invokevirtual 102, 173, 3, 0, []), (142, .iinc 2 1, 2, 0, 0, []), (145, .goto (-110), 3, 0, 0, [])])
def mk_b171_6 : List Bool × List mj_I := ([true, false, false], [(148, .aload_n 0, 0, 0, 0, []), (149, .aload_n 0, 0, 0, 0, []), (150, .getfield 12, 0, 1, 0, []), (153, .getfield 79, 4, 3, 0, []), (156, .putfield 46, 10, 1, 0, []), (159, .aload_n 0, 0, 0, 0, []), (160, .iconst 0, 0, 0, 0, []), (161, .putfield 50, 11, 1, 0, []), (164, .return_, 0, 0, 0, [])])
def mk_m171 : Nat × List (List Bool × List mj_I) := (3, [mk_b171_0, mk_b171_1, mk_b171_2, mk_b171_3, mk_b171_4, mk_b171_5, mk_b171_6])
/-- NumbersCalled$Day.rank(LNumbersCalled$Asker;)I -/
def mk_b172_0 : List Bool × List mj_I := ([true, true], [(0, .aload_n 0, 0, 0, 0, []), (1, .getfield 12, 0, 1, 0, []), (4, .getfield 106, 6, 3, 0, []), (7, .tableswitch (56) 1 3 #[25, 38, 43], 8, 0, 0, [(1, 1), (2, 4), (3, 5)])])
def mk_b172_1 : List Bool × List mj_I := ([false, true], [(32, .aload_n 1, 1, 0, 0, []), (33, .invokevirtual 109, 165, 1, 1, []), (36, .ifCond .eq (7), 2, 0, 0, []), (39, .iconst 0, 0, 0, 0, []), (40, .goto (4), 3, 0, 0, [])])
def mk_b172_2 : List Bool × List mj_I := ([false, false], [(43, .iconst 1, 0, 0, 0, []), (44, .nop, 3, 0, 0, [])])
def mk_b172_3 : List Bool × List mj_I := ([false, false], [(44, .ireturn, 0, 0, 0, [])])
def mk_b172_4 : List Bool × List mj_I := ([false, true], [(45, .aload_n 1, 1, 0, 0, []), (46, .getfield 113, 2, 0, 0, []), (49, .ireturn, 0, 0, 0, [])])
def mk_b172_5 : List Bool × List mj_I := ([false, true], [(50, .aload_n 1, 1, 0, 0, []), (51, .invokevirtual 116, 166, 1, 1, []), (54, .ifCond .eq (7), 6, 0, 0, []), (57, .iconst 0, 0, 0, 0, []), (58, .goto (4), 7, 0, 0, [])])
def mk_b172_6 : List Bool × List mj_I := ([false, false], [(61, .iconst 1, 0, 0, 0, []), (62, .nop, 7, 0, 0, [])])
def mk_b172_7 : List Bool × List mj_I := ([false, false], [(62, .ireturn, 0, 0, 0, [])])
def mk_b172_8 : List Bool × List mj_I := ([false, false], [(63, .iconst 0, 0, 0, 0, []), (64, .ireturn, 0, 0, 0, [])])
def mk_m172 : Nat × List (List Bool × List mj_I) := (2, [mk_b172_0, mk_b172_1, mk_b172_2, mk_b172_3, mk_b172_4, mk_b172_5, mk_b172_6, mk_b172_7, mk_b172_8])
/-- NumbersCalled$Day.lineUp(II)V -/
def mk_b173_0 : List Bool × List mj_I := ([true, true, true, false], [(0, .iload_n 1, 1, 0, 0, []), (1, .istore_n 3, 3, 0, 0, []), (2, .nop, 1, 0, 0, [])])
def mk_b173_1 : List Bool × List mj_I := ([true, false, true, true], [(2, .iload_n 3, 3, 0, 0, []), (3, .ifCond .le (35), 2, 0, 0, []), (6, .aload_n 0, 0, 0, 0, []), (7, .getfield 43, 9, 1, 0, []), (10, .iload_n 3, 3, 0, 0, []), (11, .iconst 1, 0, 0, 0, []), (12, .isub, 0, 0, 0, []), (13, .iaload, 0, 0, 0, []), (14, .iload_n 2, 2, 0, 0, []), (15, .if_icmp .le (23), 2, 0, 0, []), (18, .aload_n 0, 0, 0, 0, []), (19, .getfield 43, 9, 1, 0, []), (22, .iload_n 3, 3, 0, 0, []), (23, .aload_n 0, 0, 0, 0, []), (24, .getfield 43, 9, 1, 0, []), (27, .iload_n 3, 3, 0, 0, []), (28, .iconst 1, 0, 0, 0, []), (29, .isub, 0, 0, 0, []), (30, .iaload, 0, 0, 0, []), (31, .iastore, 0, 0, 0, []), (32, .iinc 3 (-1), 3, 0, 0, []), (35, .goto (-33), 1, 0, 0, [])])
def mk_b173_2 : List Bool × List mj_I := ([true, false, true, true], [(38, .aload_n 0, 0, 0, 0, []), (39, .getfield 43, 9, 1, 0, []), (42, .iload_n 3, 3, 0, 0, []), (43, .iload_n 2, 2, 0, 0, []), (44, .iastore, 0, 0, 0, []), (45, .return_, 0, 0, 0, [])])
def mk_m173 : Nat × List (List Bool × List mj_I) := (4, [mk_b173_0, mk_b173_1, mk_b173_2])
/-- NumbersCalled$Day.letIn(I)V -/
def mk_b174_0 : List Bool × List mj_I := ([true, true, false], [(0, .iconst 0, 0, 0, 0, []), (1, .istore_n 2, 2, 0, 0, []), (2, .nop, 1, 0, 0, [])])
def mk_b174_1 : List Bool × List mj_I := ([true, true, true], [(2, .iload_n 2, 2, 0, 0, []), (3, .aload_n 0, 0, 0, 0, []), (4, .getfield 12, 0, 1, 0, []), (7, .getfield 79, 4, 3, 0, []), (10, .if_icmp .ge (54), 5, 0, 0, []), (13, .aload_n 0, 0, 0, 0, []), (14, .getfield 12, 0, 1, 0, []), (17, .getfield 99, 5, 3, 0, []), (20, .iload_n 2, 2, 0, 0, []), (21, .iaload, 0, 0, 0, []), (22, .iload_n 1, 1, 0, 0, []), (23, .if_icmp .ne (35), 4, 0, 0, []), (26, .aload_n 0, 0, 0, 0, []), (27, .getfield 18, 1, 1, 0, []), (30, .iload_n 2, 2, 0, 0, []), (31, .iload_n 1, 1, 0, 0, []), (32, .aload_n 0, 0, 0, 0, []), (33, .getfield 12, 0, 1, 0, []), (36, .getfield 119, 8, 3, 0, []), (39, .if_icmp .ge (7), 2, 0, 0, []), (42, .iconst 1, 0, 0, 0, []), (43, .goto (4), 3, 0, 0, [])])
def mk_b174_2 : List Bool × List mj_I := ([true, true, true], [(46, .iconst 4, 0, 0, 0, []), (47, .nop, 3, 0, 0, [])])
def mk_b174_3 : List Bool × List mj_I := ([true, true, true], [(47, .iastore, 0, 0, 0, []), (48, .aload_n 0, 0, 0, 0, []), (49, .dup, 0, 0, 0, []), (50, .getfield 46, 10, 1, 0, []), (53, .iconst 1, 0, 0, 0, []), (54, .isub, 0, 0, 0, []), (55, .putfield 46, 10, 1, 0, []), (58, .nop, 4, 0, 0, [])])
def mk_b174_4 : List Bool × List mj_I := ([true, true, true], [(58, .iinc 2 1, 2, 0, 0, []), (61, .goto (-59), 1, 0, 0, [])])
def mk_b174_5 : List Bool × List mj_I := ([true, false, false], [(64, .aload_n 0, 0, 0, 0, []), (65, .invokevirtual 122, 175, 1, 0, []), (68, .return_, 0, 0, 0, [])])
def mk_m174 : Nat × List (List Bool × List mj_I) := (3, [mk_b174_0, mk_b174_1, mk_b174_2, mk_b174_3, mk_b174_4, mk_b174_5])
/-- NumbersCalled$Day.lookAround()V -/
def mk_b175_0 : List Bool × List mj_I := ([true, false], [(0, .aload_n 0, 0, 0, 0, []), (1, .iconst 0, 0, 0, 0, []), (2, .putfield 50, 11, 1, 0, []), (5, .iconst 0, 0, 0, 0, []), (6, .istore_n 1, 1, 0, 0, []), (7, .nop, 1, 0, 0, [])])
def mk_b175_1 : List Bool × List mj_I := ([true, true], [(7, .iload_n 1, 1, 0, 0, []), (8, .aload_n 0, 0, 0, 0, []), (9, .getfield 12, 0, 1, 0, []), (12, .getfield 79, 4, 3, 0, []), (15, .if_icmp .ge (36), 3, 0, 0, []), (18, .aload_n 0, 0, 0, 0, []), (19, .getfield 18, 1, 1, 0, []), (22, .iload_n 1, 1, 0, 0, []), (23, .iaload, 0, 0, 0, []), (24, .iconst 1, 0, 0, 0, []), (25, .if_icmp .ne (20), 2, 0, 0, []), (28, .aload_n 0, 0, 0, 0, []), (29, .dup, 0, 0, 0, []), (30, .getfield 50, 11, 1, 0, []), (33, .iconst 1, 0, 0, 0, []), (34, .aload_n 0, 0, 0, 0, []), (35, .getfield 37, 7, 1, 0, []), (38, .iload_n 1, 1, 0, 0, []), (39, .iaload, 0, 0, 0, []), (40, .ishl, 0, 0, 0, []), (41, .ior, 0, 0, 0, []), (42, .putfield 50, 11, 1, 0, []), (45, .nop, 2, 0, 0, [])])
def mk_b175_2 : List Bool × List mj_I := ([true, true], [(45, .iinc 1 1, 1, 0, 0, []), (48, .goto (-41), 1, 0, 0, [])])
def mk_b175_3 : List Bool × List mj_I := ([false, false], [(51, .return_, 0, 0, 0, [])])
def mk_m175 : Nat × List (List Bool × List mj_I) := (2, [mk_b175_0, mk_b175_1, mk_b175_2, mk_b175_3])
/-- NumbersCalled$Day.firstFor(I)I -/
def mk_b176_0 : List Bool × List mj_I := ([true, true, false, false], [(0, .iload_n 1, 1, 0, 0, []), (1, .aload_n 0, 0, 0, 0, []), (2, .getfield 50, 11, 1, 0, []), (5, .iand, 0, 0, 0, []), (6, .ifCond .ne (5), 1, 0, 0, []), (9, .iconst (-1), 0, 0, 0, []), (10, .ireturn, 0, 0, 0, [])])
def mk_b176_1 : List Bool × List mj_I := ([true, true, false, false], [(11, .iconst 0, 0, 0, 0, []), (12, .istore_n 2, 2, 0, 0, []), (13, .nop, 2, 0, 0, [])])
def mk_b176_2 : List Bool × List mj_I := ([true, true, true, false], [(13, .iload_n 2, 2, 0, 0, []), (14, .aload_n 0, 0, 0, 0, []), (15, .getfield 12, 0, 1, 0, []), (18, .getfield 79, 4, 3, 0, []), (21, .if_icmp .ge (45), 4, 0, 0, []), (24, .aload_n 0, 0, 0, 0, []), (25, .getfield 43, 9, 1, 0, []), (28, .iload_n 2, 2, 0, 0, []), (29, .iaload, 0, 0, 0, []), (30, .bipush 16, 0, 0, 0, []), (32, .irem, 0, 0, 0, []), (33, .istore_n 3, 3, 0, 0, []), (34, .aload_n 0, 0, 0, 0, []), (35, .getfield 18, 1, 1, 0, []), (38, .iload_n 3, 3, 0, 0, []), (39, .iaload, 0, 0, 0, []), (40, .iconst 1, 0, 0, 0, []), (41, .if_icmp .ne (19), 3, 0, 0, []), (44, .iload_n 1, 1, 0, 0, []), (45, .aload_n 0, 0, 0, 0, []), (46, .getfield 37, 7, 1, 0, []), (49, .iload_n 3, 3, 0, 0, []), (50, .iaload, 0, 0, 0, []), (51, .ishr, 0, 0, 0, []), (52, .iconst 1, 0, 0, 0, []), (53, .iand, 0, 0, 0, []), (54, .iconst 1, 0, 0, 0, []), (55, .if_icmp .ne (5), 3, 0, 0, []), (58, .iload_n 3, 3, 0, 0, []), (59, .ireturn, 0, 0, 0, [])])
def mk_b176_3 : List Bool × List mj_I := ([true, true, true, false], [(60, .iinc 2 1, 2, 0, 0, []), (63, .goto (-50), 2, 0, 0, [])])
def mk_b176_4 : List Bool × List mj_I := ([false, false, false, false], [(66, .iconst (-1), 0, 0, 0, []), (67, .ireturn, 0, 0, 0, [])])
def mk_m176 : Nat × List (List Bool × List mj_I) := (4, [mk_b176_0, mk_b176_1, mk_b176_2, mk_b176_3, mk_b176_4])
/-- NumbersCalled$Day.beckon(LNumbersCalled$Asker;LNumbersCalled$Text;III)V -/
def mk_b177_0 : List Bool × List mj_I := ([true, true, true, true, true, true, false, false], [(0, .iload 5, 5, 0, 0, []), (2, .aload_n 0, 0, 0, 0, []), (3, .getfield 12, 0, 1, 0, []), (6, .getfield 99, 5, 3, 0, []), (9, .iload_n 3, 3, 0, 0, []), (10, .iaload, 0, 0, 0, []), (11, .isub, 0, 0, 0, []), (12, .istore 6, 6, 0, 0, []), (14, .aload_n 0, 0, 0, 0, []), (15, .getfield 31, 5, 1, 0, []), (18, .iload_n 3, 3, 0, 0, []), (19, .dup2, 0, 0, 0, []), (20, .iaload, 0, 0, 0, []), (21, .iconst 1, 0, 0, 0, []), (22, .iadd, 0, 0, 0, []), (23, .iastore, 0, 0, 0, []), (24, .aload_n 1, 1, 0, 0, []), (25, .iload 6, 6, 0, 0, []), (27, .aload_n 2, 2, 0, 0, []), (28, .iconst 1, 0, 0, 0, []), (29, .aload_n 1, 1, 0, 0, []), (30, .iload 6, 6, 0, 0, []), (32, .iconst 0, 0, 0, 0, []), (33, .iconst 0, 0, 0, 0, []), (34, .invokevirtual 127, 215, 6, 1, []), (37, .invokevirtual 131, 168, 3, 1, []), (40, .ifCond .ne (29), 1, 0, 0, []), (43, .aload_n 0, 0, 0, 0, []), (44, .getfield 31, 5, 1, 0, []), (47, .iload_n 3, 3, 0, 0, []), (48, .iaload, 0, 0, 0, []), (49, .aload_n 0, 0, 0, 0, []), (50, .getfield 12, 0, 1, 0, []), (53, .getfield 134, 7, 3, 0, []), (56, .if_icmp .lt (125), 3, 0, 0, []), (59, .aload_n 0, 0, 0, 0, []), (60, .getfield 18, 1, 1, 0, []), (63, .iload_n 3, 3, 0, 0, []), (64, .iconst 3, 0, 0, 0, []), (65, .iastore, 0, 0, 0, []), (66, .goto (115), 3, 0, 0, [])])
def mk_b177_1 : List Bool × List mj_I := ([true, true, true, true, true, true, true, false], [(69, .aload_n 0, 0, 0, 0, []), (70, .getfield 12, 0, 1, 0, []), (73, .getfield 68, 1, 3, 0, []), (76, .iload 4, 4, 0, 0, []), (78, .iaload, 0, 0, 0, []), (79, .aload_n 1, 1, 0, 0, []), (80, .invokevirtual 86, 167, 1, 1, []), (83, .ishr, 0, 0, 0, []), (84, .iconst 1, 0, 0, 0, []), (85, .iand, 0, 0, 0, []), (86, .ifCond .ne (16), 2, 0, 0, []), (89, .aload_n 0, 0, 0, 0, []), (90, .getfield 37, 7, 1, 0, []), (93, .iload_n 3, 3, 0, 0, []), (94, .aload_n 1, 1, 0, 0, []), (95, .invokevirtual 86, 167, 1, 1, []), (98, .iastore, 0, 0, 0, []), (99, .goto (82), 3, 0, 0, [])])
def mk_b177_2 : List Bool × List mj_I := ([true, true, true, true, true, true, true, false], [(102, .aload_n 2, 2, 0, 0, []), (103, .iconst 0, 0, 0, 0, []), (104, .aload_n 1, 1, 0, 0, []), (105, .iload 6, 6, 0, 0, []), (107, .aload_n 0, 0, 0, 0, []), (108, .getfield 12, 0, 1, 0, []), (111, .getfield 137, 2, 3, 0, []), (114, .iload 4, 4, 0, 0, []), (116, .iaload, 0, 0, 0, []), (117, .iconst 0, 0, 0, 0, []), (118, .invokevirtual 127, 215, 6, 1, []), (121, .istore 7, 7, 0, 0, []), (123, .aload_n 0, 0, 0, 0, []), (124, .getfield 18, 1, 1, 0, []), (127, .iload_n 3, 3, 0, 0, []), (128, .iconst 2, 0, 0, 0, []), (129, .iastore, 0, 0, 0, []), (130, .aload_n 0, 0, 0, 0, []), (131, .getfield 22, 2, 1, 0, []), (134, .iload_n 3, 3, 0, 0, []), (135, .iload 5, 5, 0, 0, []), (137, .iastore, 0, 0, 0, []), (138, .aload_n 0, 0, 0, 0, []), (139, .getfield 25, 3, 1, 0, []), (142, .iload_n 3, 3, 0, 0, []), (143, .iload 5, 5, 0, 0, []), (145, .aload_n 1, 1, 0, 0, []), (146, .iload 7, 7, 0, 0, []), (148, .aload_n 0, 0, 0, 0, []), (149, .getfield 12, 0, 1, 0, []), (152, .getfield 140, 10, 3, 1, []), (155, .invokevirtual 143, 169, 3, 1, []), (158, .iadd, 0, 0, 0, []), (159, .iastore, 0, 0, 0, []), (160, .aload_n 0, 0, 0, 0, []), (161, .getfield 28, 4, 1, 0, []), (164, .iload_n 3, 3, 0, 0, []), (165, .iload 4, 4, 0, 0, []), (167, .iastore, 0, 0, 0, []), (168, .aload_n 0, 0, 0, 0, []), (169, .getfield 40, 8, 1, 0, []), (172, .iload 4, 4, 0, 0, []), (174, .aload_n 0, 0, 0, 0, []), (175, .getfield 25, 3, 1, 0, []), (178, .iload_n 3, 3, 0, 0, []), (179, .iaload, 0, 0, 0, []), (180, .iastore, 0, 0, 0, []), (181, .nop, 3, 0, 0, [])])
def mk_b177_3 : List Bool × List mj_I := ([true, false, false, false, false, false, false, false], [(181, .aload_n 0, 0, 0, 0, []), (182, .invokevirtual 122, 175, 1, 0, []), (185, .return_, 0, 0, 0, [])])
def mk_m177 : Nat × List (List Bool × List mj_I) := (8, [mk_b177_0, mk_b177_1, mk_b177_2, mk_b177_3])
/-- NumbersCalled$Day.waited(I)I -/
def mk_b178_0 : List Bool × List mj_I := ([true, true], [(0, .aload_n 0, 0, 0, 0, []), (1, .getfield 18, 1, 1, 0, []), (4, .iload_n 1, 1, 0, 0, []), (5, .iaload, 0, 0, 0, []), (6, .iconst 2, 0, 0, 0, []), (7, .if_icmp .ne (22), 1, 0, 0, []), (10, .aload_n 0, 0, 0, 0, []), (11, .getfield 22, 2, 1, 0, []), (14, .iload_n 1, 1, 0, 0, []), (15, .iaload, 0, 0, 0, []), (16, .aload_n 0, 0, 0, 0, []), (17, .getfield 12, 0, 1, 0, []), (20, .getfield 99, 5, 3, 0, []), (23, .iload_n 1, 1, 0, 0, []), (24, .iaload, 0, 0, 0, []), (25, .isub, 0, 0, 0, []), (26, .goto (4), 2, 0, 0, [])])
def mk_b178_1 : List Bool × List mj_I := ([false, false], [(29, .iconst (-1), 0, 0, 0, []), (30, .nop, 2, 0, 0, [])])
def mk_b178_2 : List Bool × List mj_I := ([false, false], [(30, .ireturn, 0, 0, 0, [])])
def mk_m178 : Nat × List (List Bool × List mj_I) := (2, [mk_b178_0, mk_b178_1, mk_b178_2])
/-- NumbersCalled$Day.badFor(I)I -/
def mk_b179_0 : List Bool × List mj_I := ([true, true], [(0, .aload_n 0, 0, 0, 0, []), (1, .getfield 18, 1, 1, 0, []), (4, .iload_n 1, 1, 0, 0, []), (5, .iaload, 0, 0, 0, []), (6, .iconst 2, 0, 0, 0, []), (7, .if_icmp .ne (11), 1, 0, 0, []), (10, .aload_n 0, 0, 0, 0, []), (11, .iload_n 1, 1, 0, 0, []), (12, .invokevirtual 147, 178, 2, 1, []), (15, .goto (5), 2, 0, 0, [])])
def mk_b179_1 : List Bool × List mj_I := ([false, false], [(18, .bipush 120, 0, 0, 0, []), (20, .nop, 2, 0, 0, [])])
def mk_b179_2 : List Bool × List mj_I := ([false, false], [(20, .ireturn, 0, 0, 0, [])])
def mk_m179 : Nat × List (List Bool × List mj_I) := (2, [mk_b179_0, mk_b179_1, mk_b179_2])
/-- NumbersCalled$Day.many(I)I -/
def mk_b180_0 : List Bool × List mj_I := ([true, true, false, false], [(0, .iconst 0, 0, 0, 0, []), (1, .istore_n 2, 2, 0, 0, []), (2, .iconst 0, 0, 0, 0, []), (3, .istore_n 3, 3, 0, 0, []), (4, .nop, 1, 0, 0, [])])
def mk_b180_1 : List Bool × List mj_I := ([true, true, true, true], [(4, .iload_n 3, 3, 0, 0, []), (5, .aload_n 0, 0, 0, 0, []), (6, .getfield 12, 0, 1, 0, []), (9, .getfield 79, 4, 3, 0, []), (12, .if_icmp .ge (22), 3, 0, 0, []), (15, .aload_n 0, 0, 0, 0, []), (16, .getfield 18, 1, 1, 0, []), (19, .iload_n 3, 3, 0, 0, []), (20, .iaload, 0, 0, 0, []), (21, .iload_n 1, 1, 0, 0, []), (22, .if_icmp .ne (6), 2, 0, 0, []), (25, .iinc 2 1, 2, 0, 0, []), (28, .nop, 2, 0, 0, [])])
def mk_b180_2 : List Bool × List mj_I := ([true, true, true, true], [(28, .iinc 3 1, 3, 0, 0, []), (31, .goto (-27), 1, 0, 0, [])])
def mk_b180_3 : List Bool × List mj_I := ([false, false, true, false], [(34, .iload_n 2, 2, 0, 0, []), (35, .ireturn, 0, 0, 0, [])])
def mk_m180 : Nat × List (List Bool × List mj_I) := (4, [mk_b180_0, mk_b180_1, mk_b180_2, mk_b180_3])
/-- NumbersCalled$Day.allWaits()I -/
def mk_b181_0 : List Bool × List mj_I := ([true, false, false], [(0, .iconst 0, 0, 0, 0, []), (1, .istore_n 1, 1, 0, 0, []), (2, .iconst 0, 0, 0, 0, []), (3, .istore_n 2, 2, 0, 0, []), (4, .nop, 1, 0, 0, [])])
def mk_b181_1 : List Bool × List mj_I := ([true, true, true], [(4, .iload_n 2, 2, 0, 0, []), (5, .aload_n 0, 0, 0, 0, []), (6, .getfield 12, 0, 1, 0, []), (9, .getfield 79, 4, 3, 0, []), (12, .if_icmp .ge (27), 3, 0, 0, []), (15, .aload_n 0, 0, 0, 0, []), (16, .getfield 18, 1, 1, 0, []), (19, .iload_n 2, 2, 0, 0, []), (20, .iaload, 0, 0, 0, []), (21, .iconst 2, 0, 0, 0, []), (22, .if_icmp .ne (11), 2, 0, 0, []), (25, .iload_n 1, 1, 0, 0, []), (26, .aload_n 0, 0, 0, 0, []), (27, .iload_n 2, 2, 0, 0, []), (28, .invokevirtual 147, 178, 2, 1, []), (31, .iadd, 0, 0, 0, []), (32, .istore_n 1, 1, 0, 0, []), (33, .nop, 2, 0, 0, [])])
def mk_b181_2 : List Bool × List mj_I := ([true, true, true], [(33, .iinc 2 1, 2, 0, 0, []), (36, .goto (-32), 1, 0, 0, [])])
def mk_b181_3 : List Bool × List mj_I := ([false, true, false], [(39, .iload_n 1, 1, 0, 0, []), (40, .ireturn, 0, 0, 0, [])])
def mk_m181 : Nat × List (List Bool × List mj_I) := (3, [mk_b181_0, mk_b181_1, mk_b181_2, mk_b181_3])
/-- NumbersCalled$Day.longest()I -/
def mk_b182_0 : List Bool × List mj_I := ([true, false, false], [(0, .iconst 0, 0, 0, 0, []), (1, .istore_n 1, 1, 0, 0, []), (2, .iconst 0, 0, 0, 0, []), (3, .istore_n 2, 2, 0, 0, []), (4, .nop, 1, 0, 0, [])])
def mk_b182_1 : List Bool × List mj_I := ([true, true, true], [(4, .iload_n 2, 2, 0, 0, []), (5, .aload_n 0, 0, 0, 0, []), (6, .getfield 12, 0, 1, 0, []), (9, .getfield 79, 4, 3, 0, []), (12, .if_icmp .ge (19), 2, 0, 0, []), (15, .iload_n 1, 1, 0, 0, []), (16, .aload_n 0, 0, 0, 0, []), (17, .iload_n 2, 2, 0, 0, []), (18, .invokevirtual 147, 178, 2, 1, []), (21, .invokestatic 150, 0, 0, 5, []), (24, .istore_n 1, 1, 0, 0, []), (25, .iinc 2 1, 2, 0, 0, []), (28, .goto (-24), 1, 0, 0, [])])
def mk_b182_2 : List Bool × List mj_I := ([false, true, false], [(31, .iload_n 1, 1, 0, 0, []), (32, .ireturn, 0, 0, 0, [])])
def mk_m182 : Nat × List (List Bool × List mj_I) := (3, [mk_b182_0, mk_b182_1, mk_b182_2])
/-- NumbersCalled$Day.latestEnd()I -/
def mk_b183_0 : List Bool × List mj_I := ([true, false, false], [(0, .iconst 0, 0, 0, 0, []), (1, .istore_n 1, 1, 0, 0, []), (2, .iconst 0, 0, 0, 0, []), (3, .istore_n 2, 2, 0, 0, []), (4, .nop, 1, 0, 0, [])])
def mk_b183_1 : List Bool × List mj_I := ([true, true, true], [(4, .iload_n 2, 2, 0, 0, []), (5, .aload_n 0, 0, 0, 0, []), (6, .getfield 12, 0, 1, 0, []), (9, .getfield 79, 4, 3, 0, []), (12, .if_icmp .ge (20), 2, 0, 0, []), (15, .iload_n 1, 1, 0, 0, []), (16, .aload_n 0, 0, 0, 0, []), (17, .getfield 25, 3, 1, 0, []), (20, .iload_n 2, 2, 0, 0, []), (21, .iaload, 0, 0, 0, []), (22, .invokestatic 150, 0, 0, 5, []), (25, .istore_n 1, 1, 0, 0, []), (26, .iinc 2 1, 2, 0, 0, []), (29, .goto (-25), 1, 0, 0, [])])
def mk_b183_2 : List Bool × List mj_I := ([false, true, false], [(32, .iload_n 1, 1, 0, 0, []), (33, .ireturn, 0, 0, 0, [])])
def mk_m183 : Nat × List (List Bool × List mj_I) := (3, [mk_b183_0, mk_b183_1, mk_b183_2])
/-- NumbersCalled$Day.allIdled()I -/
def mk_b184_0 : List Bool × List mj_I := ([true, false, false], [(0, .iconst 0, 0, 0, 0, []), (1, .istore_n 1, 1, 0, 0, []), (2, .iconst 0, 0, 0, 0, []), (3, .istore_n 2, 2, 0, 0, []), (4, .nop, 1, 0, 0, [])])
def mk_b184_1 : List Bool × List mj_I := ([true, true, true], [(4, .iload_n 2, 2, 0, 0, []), (5, .aload_n 0, 0, 0, 0, []), (6, .getfield 12, 0, 1, 0, []), (9, .getfield 61, 0, 3, 0, []), (12, .if_icmp .ge (18), 2, 0, 0, []), (15, .iload_n 1, 1, 0, 0, []), (16, .aload_n 0, 0, 0, 0, []), (17, .getfield 34, 6, 1, 0, []), (20, .iload_n 2, 2, 0, 0, []), (21, .iaload, 0, 0, 0, []), (22, .iadd, 0, 0, 0, []), (23, .istore_n 1, 1, 0, 0, []), (24, .iinc 2 1, 2, 0, 0, []), (27, .goto (-23), 1, 0, 0, [])])
def mk_b184_2 : List Bool × List mj_I := ([false, true, false], [(30, .iload_n 1, 1, 0, 0, []), (31, .ireturn, 0, 0, 0, [])])
def mk_m184 : Nat × List (List Bool × List mj_I) := (3, [mk_b184_0, mk_b184_1, mk_b184_2])
/-- NumbersCalled$Day.harm()I -/
def mk_b185_0 : List Bool × List mj_I := ([true], [(0, .aload_n 0, 0, 0, 0, []), (1, .invokevirtual 156, 181, 1, 1, []), (4, .bipush 60, 0, 0, 0, []), (6, .aload_n 0, 0, 0, 0, []), (7, .getfield 12, 0, 1, 0, []), (10, .getfield 79, 4, 3, 0, []), (13, .aload_n 0, 0, 0, 0, []), (14, .iconst 2, 0, 0, 0, []), (15, .invokevirtual 159, 180, 2, 1, []), (18, .isub, 0, 0, 0, []), (19, .imul, 0, 0, 0, []), (20, .iadd, 0, 0, 0, []), (21, .ireturn, 0, 0, 0, [])])
def mk_m185 : Nat × List (List Bool × List mj_I) := (1, [mk_b185_0])
/-- NumbersCalled$Day.isOver(I)Z -/
def mk_b186_0 : List Bool × List mj_I := ([true, true], [(0, .aload_n 0, 0, 0, 0, []), (1, .invokevirtual 162, 183, 1, 1, []), (4, .iload_n 1, 1, 0, 0, []), (5, .if_icmp .gt (15), 1, 0, 0, []), (8, .aload_n 0, 0, 0, 0, []), (9, .iconst 1, 0, 0, 0, []), (10, .invokevirtual 159, 180, 2, 1, []), (13, .ifCond .ne (7), 1, 0, 0, []), (16, .iconst 1, 0, 0, 0, []), (17, .goto (4), 2, 0, 0, [])])
def mk_b186_1 : List Bool × List mj_I := ([false, false], [(20, .iconst 0, 0, 0, 0, []), (21, .nop, 2, 0, 0, [])])
def mk_b186_2 : List Bool × List mj_I := ([false, false], [(21, .ireturn, 0, 0, 1, [])])
def mk_m186 : Nat × List (List Bool × List mj_I) := (2, [mk_b186_0, mk_b186_1, mk_b186_2])
/-- NumbersCalled$Day.total(I)I -/
def mk_b187_0 : List Bool × List mj_I := ([true, true], [(0, .iload_n 1, 1, 0, 0, []), (1, .tableswitch (82) 0 6 #[43, 49, 54, 59, 64, 70, 76], 8, 0, 0, [(0, 1), (1, 2), (2, 3), (3, 4), (4, 5), (5, 6), (6, 7)])])
def mk_b187_1 : List Bool × List mj_I := ([true, false], [(44, .aload_n 0, 0, 0, 0, []), (45, .iconst 2, 0, 0, 0, []), (46, .invokevirtual 159, 180, 2, 1, []), (49, .ireturn, 0, 0, 0, [])])
def mk_b187_2 : List Bool × List mj_I := ([true, false], [(50, .aload_n 0, 0, 0, 0, []), (51, .invokevirtual 156, 181, 1, 1, []), (54, .ireturn, 0, 0, 0, [])])
def mk_b187_3 : List Bool × List mj_I := ([true, false], [(55, .aload_n 0, 0, 0, 0, []), (56, .invokevirtual 165, 182, 1, 1, []), (59, .ireturn, 0, 0, 0, [])])
def mk_b187_4 : List Bool × List mj_I := ([true, false], [(60, .aload_n 0, 0, 0, 0, []), (61, .invokevirtual 162, 183, 1, 1, []), (64, .ireturn, 0, 0, 0, [])])
def mk_b187_5 : List Bool × List mj_I := ([true, false], [(65, .aload_n 0, 0, 0, 0, []), (66, .iconst 3, 0, 0, 0, []), (67, .invokevirtual 159, 180, 2, 1, []), (70, .ireturn, 0, 0, 0, [])])
def mk_b187_6 : List Bool × List mj_I := ([true, false], [(71, .aload_n 0, 0, 0, 0, []), (72, .iconst 4, 0, 0, 0, []), (73, .invokevirtual 159, 180, 2, 1, []), (76, .ireturn, 0, 0, 0, [])])
def mk_b187_7 : List Bool × List mj_I := ([true, false], [(77, .aload_n 0, 0, 0, 0, []), (78, .iconst 1, 0, 0, 0, []), (79, .invokevirtual 159, 180, 2, 1, []), (82, .ireturn, 0, 0, 0, [])])
def mk_b187_8 : List Bool × List mj_I := ([true, false], [(83, .aload_n 0, 0, 0, 0, []), (84, .invokevirtual 168, 184, 1, 1, []), (87, .ireturn, 0, 0, 0, [])])
def mk_m187 : Nat × List (List Bool × List mj_I) := (2, [mk_b187_0, mk_b187_1, mk_b187_2, mk_b187_3, mk_b187_4, mk_b187_5, mk_b187_6, mk_b187_7, mk_b187_8])
/-- NumbersCalled$Least.start()V -/
def mk_b188_0 : List Bool × List mj_I := ([true], [(0, .aload_n 0, 0, 0, 0, []), (1, .iconst (-1), 0, 0, 0, []), (2, .putfield 9, 0, 2, 0, []), (5, .aload_n 0, 0, 0, 0, []), (6, .ldc 15, 4, 0, 0, []), (8, .putfield 16, 1, 2, 0, []), (11, .return_, 0, 0, 0, [])])
def mk_m188 : Nat × List (List Bool × List mj_I) := (1, [mk_b188_0])
/-- NumbersCalled$Least.offer(II)V -/
def mk_b189_0 : List Bool × List mj_I := ([true, true, true], [(0, .iload_n 2, 2, 0, 0, []), (1, .aload_n 0, 0, 0, 0, []), (2, .getfield 16, 1, 2, 0, []), (5, .if_icmp .ge (13), 1, 0, 0, []), (8, .aload_n 0, 0, 0, 0, []), (9, .iload_n 1, 1, 0, 0, []), (10, .putfield 9, 0, 2, 0, []), (13, .aload_n 0, 0, 0, 0, []), (14, .iload_n 2, 2, 0, 0, []), (15, .putfield 16, 1, 2, 0, []), (18, .nop, 1, 0, 0, [])])
def mk_b189_1 : List Bool × List mj_I := ([false, false, false], [(18, .return_, 0, 0, 0, [])])
def mk_m189 : Nat × List (List Bool × List mj_I) := (3, [mk_b189_0, mk_b189_1])
/-- NumbersCalled$Least.tell(I)I -/
def mk_b190_0 : List Bool × List mj_I := ([true, true], [(0, .iload_n 1, 1, 0, 0, []), (1, .ifCond .ne (10), 1, 0, 0, []), (4, .aload_n 0, 0, 0, 0, []), (5, .getfield 9, 0, 2, 0, []), (8, .goto (7), 2, 0, 0, [])])
def mk_b190_1 : List Bool × List mj_I := ([true, false], [(11, .aload_n 0, 0, 0, 0, []), (12, .getfield 16, 1, 2, 0, []), (15, .nop, 2, 0, 0, [])])
def mk_b190_2 : List Bool × List mj_I := ([false, false], [(15, .ireturn, 0, 0, 0, [])])
def mk_m190 : Nat × List (List Bool × List mj_I) := (2, [mk_b190_0, mk_b190_1, mk_b190_2])
/-- NumbersCalled$Plan.become(LNumbersCalled$Plan;)V -/
def mk_b191_0 : List Bool × List mj_I := ([true, true, false], [(0, .aload_n 0, 0, 0, 0, []), (1, .aload_n 1, 1, 0, 0, []), (2, .getfield 9, 0, 3, 0, []), (5, .putfield 9, 0, 3, 0, []), (8, .iconst 0, 0, 0, 0, []), (9, .istore_n 2, 2, 0, 0, []), (10, .nop, 1, 0, 0, [])])
def mk_b191_1 : List Bool × List mj_I := ([true, true, true], [(10, .iload_n 2, 2, 0, 0, []), (11, .iconst 4, 0, 0, 0, []), (12, .if_icmp .ge (45), 2, 0, 0, []), (15, .aload_n 0, 0, 0, 0, []), (16, .getfield 15, 1, 3, 0, []), (19, .iload_n 2, 2, 0, 0, []), (20, .aload_n 1, 1, 0, 0, []), (21, .getfield 15, 1, 3, 0, []), (24, .iload_n 2, 2, 0, 0, []), (25, .iaload, 0, 0, 0, []), (26, .iastore, 0, 0, 0, []), (27, .aload_n 0, 0, 0, 0, []), (28, .getfield 19, 2, 3, 0, []), (31, .iload_n 2, 2, 0, 0, []), (32, .aload_n 1, 1, 0, 0, []), (33, .getfield 19, 2, 3, 0, []), (36, .iload_n 2, 2, 0, 0, []), (37, .iaload, 0, 0, 0, []), (38, .iastore, 0, 0, 0, []), (39, .aload_n 0, 0, 0, 0, []), (40, .getfield 22, 3, 3, 0, []), (43, .iload_n 2, 2, 0, 0, []), (44, .aload_n 1, 1, 0, 0, []), (45, .getfield 22, 3, 3, 0, []), (48, .iload_n 2, 2, 0, 0, []), (49, .iaload, 0, 0, 0, []), (50, .iastore, 0, 0, 0, []), (51, .iinc 2 1, 2, 0, 0, []), (54, .goto (-44), 1, 0, 0, [])])
def mk_b191_2 : List Bool × List mj_I := ([true, true, false], [(57, .aload_n 0, 0, 0, 0, []), (58, .aload_n 1, 1, 0, 0, []), (59, .getfield 25, 4, 3, 0, []), (62, .putfield 25, 4, 3, 0, []), (65, .iconst 0, 0, 0, 0, []), (66, .istore_n 2, 2, 0, 0, []), (67, .nop, 3, 0, 0, [])])
def mk_b191_3 : List Bool × List mj_I := ([true, true, true], [(67, .iload_n 2, 2, 0, 0, []), (68, .bipush 16, 0, 0, 0, []), (70, .if_icmp .ge (21), 4, 0, 0, []), (73, .aload_n 0, 0, 0, 0, []), (74, .getfield 28, 5, 3, 0, []), (77, .iload_n 2, 2, 0, 0, []), (78, .aload_n 1, 1, 0, 0, []), (79, .getfield 28, 5, 3, 0, []), (82, .iload_n 2, 2, 0, 0, []), (83, .iaload, 0, 0, 0, []), (84, .iastore, 0, 0, 0, []), (85, .iinc 2 1, 2, 0, 0, []), (88, .goto (-21), 3, 0, 0, [])])
def mk_b191_4 : List Bool × List mj_I := ([true, true, false], [(91, .aload_n 0, 0, 0, 0, []), (92, .aload_n 1, 1, 0, 0, []), (93, .getfield 31, 6, 3, 0, []), (96, .putfield 31, 6, 3, 0, []), (99, .aload_n 0, 0, 0, 0, []), (100, .aload_n 1, 1, 0, 0, []), (101, .getfield 34, 7, 3, 0, []), (104, .putfield 34, 7, 3, 0, []), (107, .aload_n 0, 0, 0, 0, []), (108, .aload_n 1, 1, 0, 0, []), (109, .getfield 37, 8, 3, 0, []), (112, .putfield 37, 8, 3, 0, []), (115, .aload_n 0, 0, 0, 0, []), (116, .aload_n 1, 1, 0, 0, []), (117, .getfield 40, 9, 3, 0, []), (120, .putfield 40, 9, 3, 0, []), (123, .aload_n 0, 0, 0, 0, []), (124, .aload_n 1, 1, 0, 0, []), (125, .getfield 43, 10, 3, 1, []), (128, .putfield 43, 10, 3, 1, []), (131, .aload_n 0, 0, 0, 0, []), (132, .aload_n 1, 1, 0, 0, []), (133, .getfield 47, 11, 3, 1, []), (136, .putfield 47, 11, 3, 1, []), (139, .return_, 0, 0, 0, [])])
def mk_m191 : Nat × List (List Bool × List mj_I) := (3, [mk_b191_0, mk_b191_1, mk_b191_2, mk_b191_3, mk_b191_4])
/-- NumbersCalled$Plan.teach(I)V -/
def mk_b192_0 : List Bool × List mj_I := ([true, true], [(0, .iload_n 1, 1, 0, 0, []), (1, .iconst 0, 0, 0, 0, []), (2, .bipush 15, 0, 0, 0, []), (4, .invokestatic 50, 44, 3, 1, []), (7, .ifCond .eq (19), 1, 0, 0, []), (10, .aload_n 0, 0, 0, 0, []), (11, .getfield 15, 1, 3, 0, []), (14, .iload_n 1, 1, 0, 0, []), (15, .iconst 4, 0, 0, 0, []), (16, .idiv, 0, 0, 0, []), (17, .dup2, 0, 0, 0, []), (18, .iaload, 0, 0, 0, []), (19, .iconst 1, 0, 0, 0, []), (20, .iload_n 1, 1, 0, 0, []), (21, .iconst 4, 0, 0, 0, []), (22, .irem, 0, 0, 0, []), (23, .ishl, 0, 0, 0, []), (24, .ior, 0, 0, 0, []), (25, .iastore, 0, 0, 0, []), (26, .nop, 1, 0, 0, [])])
def mk_b192_1 : List Bool × List mj_I := ([false, false], [(26, .return_, 0, 0, 0, [])])
def mk_m192 : Nat × List (List Bool × List mj_I) := (2, [mk_b192_0, mk_b192_1])
/-- NumbersCalled$Plan.isPausing(II)Z -/
def mk_b193_0 : List Bool × List mj_I := ([true, true, true], [(0, .aload_n 0, 0, 0, 0, []), (1, .getfield 22, 3, 3, 0, []), (4, .iload_n 1, 1, 0, 0, []), (5, .iaload, 0, 0, 0, []), (6, .ifCond .lt (31), 1, 0, 0, []), (9, .iload_n 2, 2, 0, 0, []), (10, .aload_n 0, 0, 0, 0, []), (11, .getfield 22, 3, 3, 0, []), (14, .iload_n 1, 1, 0, 0, []), (15, .iaload, 0, 0, 0, []), (16, .aload_n 0, 0, 0, 0, []), (17, .getfield 22, 3, 3, 0, []), (20, .iload_n 1, 1, 0, 0, []), (21, .iaload, 0, 0, 0, []), (22, .bipush 10, 0, 0, 0, []), (24, .iadd, 0, 0, 0, []), (25, .iconst 1, 0, 0, 0, []), (26, .isub, 0, 0, 0, []), (27, .invokestatic 50, 44, 3, 1, []), (30, .ifCond .eq (7), 1, 0, 0, []), (33, .iconst 1, 0, 0, 0, []), (34, .goto (4), 2, 0, 0, [])])
def mk_b193_1 : List Bool × List mj_I := ([false, false, false], [(37, .iconst 0, 0, 0, 0, []), (38, .nop, 2, 0, 0, [])])
def mk_b193_2 : List Bool × List mj_I := ([false, false, false], [(38, .ireturn, 0, 0, 1, [])])
def mk_m193 : Nat × List (List Bool × List mj_I) := (3, [mk_b193_0, mk_b193_1, mk_b193_2])
/-- NumbersCalled$Sheet.isMissing()Z -/
def mk_b194_0 : List Bool × List mj_I := ([true], [(0, .aload_n 0, 0, 0, 0, []), (1, .getfield 9, 0, 4, 0, []), (4, .iconst (-1), 0, 0, 0, []), (5, .if_icmp .ne (7), 1, 0, 0, []), (8, .iconst 1, 0, 0, 0, []), (9, .goto (4), 2, 0, 0, [])])
def mk_b194_1 : List Bool × List mj_I := ([false], [(12, .iconst 0, 0, 0, 0, []), (13, .nop, 2, 0, 0, [])])
def mk_b194_2 : List Bool × List mj_I := ([false], [(13, .ireturn, 0, 0, 1, [])])
def mk_m194 : Nat × List (List Bool × List mj_I) := (1, [mk_b194_0, mk_b194_1, mk_b194_2])
/-- NumbersCalled$Sheet.become(II)V -/
def mk_b195_0 : List Bool × List mj_I := ([true, true, true, false], [(0, .aload_n 0, 0, 0, 0, []), (1, .iload_n 1, 1, 0, 0, []), (2, .putfield 9, 0, 4, 0, []), (5, .aload_n 0, 0, 0, 0, []), (6, .iload_n 2, 2, 0, 0, []), (7, .putfield 15, 1, 4, 0, []), (10, .iconst 0, 0, 0, 0, []), (11, .istore_n 3, 3, 0, 0, []), (12, .nop, 1, 0, 0, [])])
def mk_b195_1 : List Bool × List mj_I := ([true, false, false, true], [(12, .iload_n 3, 3, 0, 0, []), (13, .bipush 40, 0, 0, 0, []), (15, .if_icmp .ge (16), 2, 0, 0, []), (18, .aload_n 0, 0, 0, 0, []), (19, .getfield 18, 2, 4, 0, []), (22, .iload_n 3, 3, 0, 0, []), (23, .iconst 0, 0, 0, 0, []), (24, .iastore, 0, 0, 0, []), (25, .iinc 3 1, 3, 0, 0, []), (28, .goto (-16), 1, 0, 0, [])])
def mk_b195_2 : List Bool × List mj_I := ([false, false, false, false], [(31, .return_, 0, 0, 0, [])])
def mk_m195 : Nat × List (List Bool × List mj_I) := (4, [mk_b195_0, mk_b195_1, mk_b195_2])
/-- NumbersCalled$Sheet.write(II)V -/
def mk_b196_0 : List Bool × List mj_I := ([true, true, true], [(0, .aload_n 0, 0, 0, 0, []), (1, .getfield 9, 0, 4, 0, []), (4, .lookupswitch (50) #[(0, 28), (1, 39)], 3, 0, 0, [(0, 1), (1, 2)])])
def mk_b196_1 : List Bool × List mj_I := ([true, true, true], [(32, .aload_n 0, 0, 0, 0, []), (33, .getfield 18, 2, 4, 0, []), (36, .iload_n 1, 1, 0, 0, []), (37, .iload_n 2, 2, 0, 0, []), (38, .i2b, 0, 0, 0, []), (39, .iastore, 0, 0, 0, []), (40, .goto (21), 4, 0, 0, [])])
def mk_b196_2 : List Bool × List mj_I := ([true, true, true], [(43, .aload_n 0, 0, 0, 0, []), (44, .getfield 18, 2, 4, 0, []), (47, .iload_n 1, 1, 0, 0, []), (48, .iload_n 2, 2, 0, 0, []), (49, .i2s, 0, 0, 0, []), (50, .iastore, 0, 0, 0, []), (51, .goto (10), 4, 0, 0, [])])
def mk_b196_3 : List Bool × List mj_I := ([true, true, true], [(54, .aload_n 0, 0, 0, 0, []), (55, .getfield 18, 2, 4, 0, []), (58, .iload_n 1, 1, 0, 0, []), (59, .iload_n 2, 2, 0, 0, []), (60, .iastore, 0, 0, 0, []), (61, .nop, 4, 0, 0, [])])
def mk_b196_4 : List Bool × List mj_I := ([false, false, false], [(61, .return_, 0, 0, 0, [])])
def mk_m196 : Nat × List (List Bool × List mj_I) := (3, [mk_b196_0, mk_b196_1, mk_b196_2, mk_b196_3, mk_b196_4])
/-- NumbersCalled$Tape.append(I)V -/
def mk_b197_0 : List Bool × List mj_I := ([true, true], [(0, .aload_n 0, 0, 0, 0, []), (1, .getfield 15, 1, 5, 0, []), (4, .sipush 160, 0, 0, 0, []), (7, .if_icmp .ge (23), 1, 0, 0, []), (10, .aload_n 0, 0, 0, 0, []), (11, .getfield 9, 0, 5, 0, []), (14, .aload_n 0, 0, 0, 0, []), (15, .getfield 15, 1, 5, 0, []), (18, .iload_n 1, 1, 0, 0, []), (19, .iastore, 0, 0, 0, []), (20, .aload_n 0, 0, 0, 0, []), (21, .dup, 0, 0, 0, []), (22, .getfield 15, 1, 5, 0, []), (25, .iconst 1, 0, 0, 0, []), (26, .iadd, 0, 0, 0, []), (27, .putfield 15, 1, 5, 0, []), (30, .nop, 1, 0, 0, [])])
def mk_b197_1 : List Bool × List mj_I := ([false, false], [(30, .return_, 0, 0, 0, [])])
def mk_m197 : Nat × List (List Bool × List mj_I) := (2, [mk_b197_0, mk_b197_1])
/-- NumbersCalled$Tape.read()I -/
def mk_b198_0 : List Bool × List mj_I := ([true, false], [(0, .aload_n 0, 0, 0, 0, []), (1, .iconst 0, 0, 0, 0, []), (2, .putfield 27, 4, 5, 0, []), (5, .aload_n 0, 0, 0, 0, []), (6, .iconst 0, 0, 0, 0, []), (7, .putfield 30, 5, 5, 0, []), (10, .aload_n 0, 0, 0, 0, []), (11, .invokevirtual 42, 208, 1, 0, []), (14, .iconst 0, 0, 0, 0, []), (15, .istore_n 1, 1, 0, 0, []), (16, .nop, 1, 0, 0, [])])
def mk_b198_1 : List Bool × List mj_I := ([true, true], [(16, .iload_n 1, 1, 0, 0, []), (17, .iconst 2, 0, 0, 0, []), (18, .if_icmp .gt (49), 4, 0, 0, []), (21, .aload_n 0, 0, 0, 0, []), (22, .iload_n 1, 1, 0, 0, []), (23, .invokevirtual 45, 199, 2, 1, []), (26, .ifCond .eq (20), 2, 0, 0, []), (29, .aload_n 0, 0, 0, 0, []), (30, .iconst 0, 0, 0, 0, []), (31, .invokevirtual 49, 201, 2, 1, []), (34, .ifCond .eq (12), 2, 0, 0, []), (37, .aload_n 0, 0, 0, 0, []), (38, .bipush 59, 0, 0, 0, []), (40, .invokevirtual 45, 199, 2, 1, []), (43, .ifCond .ne (8), 3, 0, 0, []), (46, .nop, 2, 0, 0, [])])
def mk_b198_2 : List Bool × List mj_I := ([true, false], [(46, .aload_n 0, 0, 0, 0, []), (47, .getfield 33, 6, 5, 0, []), (50, .ireturn, 0, 0, 0, [])])
def mk_b198_3 : List Bool × List mj_I := ([true, true], [(51, .aload_n 0, 0, 0, 0, []), (52, .getfield 24, 3, 5, 0, []), (55, .iload_n 1, 1, 0, 0, []), (56, .aload_n 0, 0, 0, 0, []), (57, .getfield 27, 4, 5, 0, []), (60, .iastore, 0, 0, 0, []), (61, .iinc 1 1, 1, 0, 0, []), (64, .goto (-48), 1, 0, 0, [])])
def mk_b198_4 : List Bool × List mj_I := ([true, false], [(67, .aload_n 0, 0, 0, 0, []), (68, .getfield 36, 7, 5, 0, []), (71, .bipush 14, 0, 0, 0, []), (73, .if_icmp .ne (7), 5, 0, 0, []), (76, .iconst (-1), 0, 0, 0, []), (77, .goto (7), 6, 0, 0, [])])
def mk_b198_5 : List Bool × List mj_I := ([true, false], [(80, .aload_n 0, 0, 0, 0, []), (81, .getfield 33, 6, 5, 0, []), (84, .nop, 6, 0, 0, [])])
def mk_b198_6 : List Bool × List mj_I := ([false, false], [(84, .ireturn, 0, 0, 0, [])])
def mk_m198 : Nat × List (List Bool × List mj_I) := (2, [mk_b198_0, mk_b198_1, mk_b198_2, mk_b198_3, mk_b198_4, mk_b198_5, mk_b198_6])
/-- NumbersCalled$Tape.skip(I)Z -/
def mk_b199_0 : List Bool × List mj_I := ([true, true], [(0, .aload_n 0, 0, 0, 0, []), (1, .getfield 36, 7, 5, 0, []), (4, .iload_n 1, 1, 0, 0, []), (5, .if_icmp .eq (5), 1, 0, 0, []), (8, .iconst 0, 0, 0, 0, []), (9, .ireturn, 0, 0, 1, [])])
def mk_b199_1 : List Bool × List mj_I := ([true, false], [(10, .aload_n 0, 0, 0, 0, []), (11, .invokevirtual 42, 208, 1, 0, []), (14, .iconst 1, 0, 0, 0, []), (15, .ireturn, 0, 0, 1, [])])
def mk_m199 : Nat × List (List Bool × List mj_I) := (2, [mk_b199_0, mk_b199_1])
/-- NumbersCalled$Tape.tell(I)V -/
def mk_b200_0 : List Bool × List mj_I := ([true, true], [(0, .aload_n 0, 0, 0, 0, []), (1, .getfield 27, 4, 5, 0, []), (4, .sipush 160, 0, 0, 0, []), (7, .if_icmp .ge (23), 1, 0, 0, []), (10, .aload_n 0, 0, 0, 0, []), (11, .getfield 19, 2, 5, 0, []), (14, .aload_n 0, 0, 0, 0, []), (15, .getfield 27, 4, 5, 0, []), (18, .iload_n 1, 1, 0, 0, []), (19, .iastore, 0, 0, 0, []), (20, .aload_n 0, 0, 0, 0, []), (21, .dup, 0, 0, 0, []), (22, .getfield 27, 4, 5, 0, []), (25, .iconst 1, 0, 0, 0, []), (26, .iadd, 0, 0, 0, []), (27, .putfield 27, 4, 5, 0, []), (30, .nop, 1, 0, 0, [])])
def mk_b200_1 : List Bool × List mj_I := ([false, false], [(30, .return_, 0, 0, 0, [])])
def mk_m200 : Nat × List (List Bool × List mj_I) := (2, [mk_b200_0, mk_b200_1])
/-- NumbersCalled$Tape.readEither(I)Z -/
def mk_b201_0 : List Bool × List mj_I := ([true, true, false, false], [(0, .aload_n 0, 0, 0, 0, []), (1, .iload_n 1, 1, 0, 0, []), (2, .invokevirtual 52, 202, 2, 1, []), (5, .istore_n 2, 2, 0, 0, []), (6, .iconst 0, 0, 0, 0, []), (7, .istore_n 3, 3, 0, 0, []), (8, .nop, 1, 0, 0, [])])
def mk_b201_1 : List Bool × List mj_I := ([true, true, true, true], [(8, .iload_n 3, 3, 0, 0, []), (9, .sipush 160, 0, 0, 0, []), (12, .if_icmp .ge (37), 2, 0, 0, []), (15, .iload_n 2, 2, 0, 0, []), (16, .ifCond .eq (33), 2, 0, 0, []), (19, .aload_n 0, 0, 0, 0, []), (20, .getfield 36, 7, 5, 0, []), (23, .iconst 3, 0, 0, 0, []), (24, .if_icmp .ne (25), 2, 0, 0, []), (27, .aload_n 0, 0, 0, 0, []), (28, .invokevirtual 42, 208, 1, 0, []), (31, .aload_n 0, 0, 0, 0, []), (32, .iload_n 1, 1, 0, 0, []), (33, .invokevirtual 52, 202, 2, 1, []), (36, .istore_n 2, 2, 0, 0, []), (37, .aload_n 0, 0, 0, 0, []), (38, .bipush (-4), 0, 0, 0, []), (40, .invokevirtual 55, 200, 2, 0, []), (43, .iinc 3 1, 3, 0, 0, []), (46, .goto (-38), 1, 0, 0, [])])
def mk_b201_2 : List Bool × List mj_I := ([false, false, true, false], [(49, .iload_n 2, 2, 0, 0, []), (50, .ireturn, 0, 0, 1, [])])
def mk_m201 : Nat × List (List Bool × List mj_I) := (4, [mk_b201_0, mk_b201_1, mk_b201_2])
/-- NumbersCalled$Tape.readBoth(I)Z -/
def mk_b202_0 : List Bool × List mj_I := ([true, true, false, false], [(0, .aload_n 0, 0, 0, 0, []), (1, .iload_n 1, 1, 0, 0, []), (2, .invokevirtual 59, 203, 2, 1, []), (5, .istore_n 2, 2, 0, 0, []), (6, .iconst 0, 0, 0, 0, []), (7, .istore_n 3, 3, 0, 0, []), (8, .nop, 1, 0, 0, [])])
def mk_b202_1 : List Bool × List mj_I := ([true, true, true, true], [(8, .iload_n 3, 3, 0, 0, []), (9, .sipush 160, 0, 0, 0, []), (12, .if_icmp .ge (37), 2, 0, 0, []), (15, .iload_n 2, 2, 0, 0, []), (16, .ifCond .eq (33), 2, 0, 0, []), (19, .aload_n 0, 0, 0, 0, []), (20, .getfield 36, 7, 5, 0, []), (23, .iconst 4, 0, 0, 0, []), (24, .if_icmp .ne (25), 2, 0, 0, []), (27, .aload_n 0, 0, 0, 0, []), (28, .invokevirtual 42, 208, 1, 0, []), (31, .aload_n 0, 0, 0, 0, []), (32, .iload_n 1, 1, 0, 0, []), (33, .invokevirtual 59, 203, 2, 1, []), (36, .istore_n 2, 2, 0, 0, []), (37, .aload_n 0, 0, 0, 0, []), (38, .bipush (-5), 0, 0, 0, []), (40, .invokevirtual 55, 200, 2, 0, []), (43, .iinc 3 1, 3, 0, 0, []), (46, .goto (-38), 1, 0, 0, [])])
def mk_b202_2 : List Bool × List mj_I := ([false, false, true, false], [(49, .iload_n 2, 2, 0, 0, []), (50, .ireturn, 0, 0, 1, [])])
def mk_m202 : Nat × List (List Bool × List mj_I) := (4, [mk_b202_0, mk_b202_1, mk_b202_2])
/-- NumbersCalled$Tape.readNot(I)Z -/
def mk_b203_0 : List Bool × List mj_I := ([true, true, false, false], [(0, .aload_n 0, 0, 0, 0, []), (1, .getfield 36, 7, 5, 0, []), (4, .iconst 5, 0, 0, 0, []), (5, .if_icmp .ne (10), 1, 0, 0, []), (8, .aload_n 0, 0, 0, 0, []), (9, .iconst 5, 0, 0, 0, []), (10, .iload_n 1, 1, 0, 0, []), (11, .invokevirtual 62, 207, 3, 1, []), (14, .ireturn, 0, 0, 1, [])])
def mk_b203_1 : List Bool × List mj_I := ([true, true, false, false], [(15, .aload_n 0, 0, 0, 0, []), (16, .iload_n 1, 1, 0, 0, []), (17, .invokevirtual 66, 204, 2, 1, []), (20, .istore_n 2, 2, 0, 0, []), (21, .aload_n 0, 0, 0, 0, []), (22, .getfield 36, 7, 5, 0, []), (25, .istore_n 3, 3, 0, 0, []), (26, .iload_n 2, 2, 0, 0, []), (27, .ifCond .eq (32), 3, 0, 0, []), (30, .iload_n 3, 3, 0, 0, []), (31, .bipush 60, 0, 0, 0, []), (33, .if_icmp .eq (9), 2, 0, 0, []), (36, .iload_n 3, 3, 0, 0, []), (37, .bipush 61, 0, 0, 0, []), (39, .if_icmp .ne (20), 3, 0, 0, []), (42, .nop, 2, 0, 0, [])])
def mk_b203_2 : List Bool × List mj_I := ([true, true, false, true], [(42, .aload_n 0, 0, 0, 0, []), (43, .invokevirtual 42, 208, 1, 0, []), (46, .aload_n 0, 0, 0, 0, []), (47, .iload_n 1, 1, 0, 0, []), (48, .invokevirtual 66, 204, 2, 1, []), (51, .istore_n 2, 2, 0, 0, []), (52, .aload_n 0, 0, 0, 0, []), (53, .iload_n 3, 3, 0, 0, []), (54, .iconst (-1), 0, 0, 0, []), (55, .ixor, 0, 0, 0, []), (56, .invokevirtual 55, 200, 2, 0, []), (59, .nop, 3, 0, 0, [])])
def mk_b203_3 : List Bool × List mj_I := ([false, false, true, false], [(59, .iload_n 2, 2, 0, 0, []), (60, .ireturn, 0, 0, 1, [])])
def mk_m203 : Nat × List (List Bool × List mj_I) := (4, [mk_b203_0, mk_b203_1, mk_b203_2, mk_b203_3])
/-- NumbersCalled$Tape.readSum(I)Z -/
def mk_b204_0 : List Bool × List mj_I := ([true, true, false, false, false], [(0, .aload_n 0, 0, 0, 0, []), (1, .iload_n 1, 1, 0, 0, []), (2, .invokevirtual 69, 205, 2, 1, []), (5, .istore_n 2, 2, 0, 0, []), (6, .iconst 0, 0, 0, 0, []), (7, .istore_n 3, 3, 0, 0, []), (8, .nop, 1, 0, 0, [])])
def mk_b204_1 : List Bool × List mj_I := ([true, true, true, true, false], [(8, .iload_n 3, 3, 0, 0, []), (9, .sipush 160, 0, 0, 0, []), (12, .if_icmp .ge (55), 3, 0, 0, []), (15, .iload_n 2, 2, 0, 0, []), (16, .ifCond .eq (51), 3, 0, 0, []), (19, .aload_n 0, 0, 0, 0, []), (20, .getfield 36, 7, 5, 0, []), (23, .bipush 43, 0, 0, 0, []), (25, .if_icmp .eq (12), 2, 0, 0, []), (28, .aload_n 0, 0, 0, 0, []), (29, .getfield 36, 7, 5, 0, []), (32, .bipush 45, 0, 0, 0, []), (34, .if_icmp .ne (33), 3, 0, 0, []), (37, .nop, 2, 0, 0, [])])
def mk_b204_2 : List Bool × List mj_I := ([true, true, false, true, false], [(37, .aload_n 0, 0, 0, 0, []), (38, .getfield 36, 7, 5, 0, []), (41, .istore 4, 4, 0, 0, []), (43, .aload_n 0, 0, 0, 0, []), (44, .invokevirtual 42, 208, 1, 0, []), (47, .aload_n 0, 0, 0, 0, []), (48, .iload_n 1, 1, 0, 0, []), (49, .invokevirtual 69, 205, 2, 1, []), (52, .istore_n 2, 2, 0, 0, []), (53, .aload_n 0, 0, 0, 0, []), (54, .iload 4, 4, 0, 0, []), (56, .iconst (-1), 0, 0, 0, []), (57, .ixor, 0, 0, 0, []), (58, .invokevirtual 55, 200, 2, 0, []), (61, .iinc 3 1, 3, 0, 0, []), (64, .goto (-56), 1, 0, 0, [])])
def mk_b204_3 : List Bool × List mj_I := ([false, false, true, false, false], [(67, .iload_n 2, 2, 0, 0, []), (68, .ireturn, 0, 0, 1, [])])
def mk_m204 : Nat × List (List Bool × List mj_I) := (5, [mk_b204_0, mk_b204_1, mk_b204_2, mk_b204_3])
/-- NumbersCalled$Tape.readTerm(I)Z -/
def mk_b205_0 : List Bool × List mj_I := ([true, true, false, false], [(0, .aload_n 0, 0, 0, 0, []), (1, .iload_n 1, 1, 0, 0, []), (2, .invokevirtual 72, 206, 2, 1, []), (5, .istore_n 2, 2, 0, 0, []), (6, .iconst 0, 0, 0, 0, []), (7, .istore_n 3, 3, 0, 0, []), (8, .nop, 1, 0, 0, [])])
def mk_b205_1 : List Bool × List mj_I := ([true, true, true, true], [(8, .iload_n 3, 3, 0, 0, []), (9, .sipush 160, 0, 0, 0, []), (12, .if_icmp .ge (38), 2, 0, 0, []), (15, .iload_n 2, 2, 0, 0, []), (16, .ifCond .eq (34), 2, 0, 0, []), (19, .aload_n 0, 0, 0, 0, []), (20, .getfield 36, 7, 5, 0, []), (23, .bipush 42, 0, 0, 0, []), (25, .if_icmp .ne (25), 2, 0, 0, []), (28, .aload_n 0, 0, 0, 0, []), (29, .invokevirtual 42, 208, 1, 0, []), (32, .aload_n 0, 0, 0, 0, []), (33, .iload_n 1, 1, 0, 0, []), (34, .invokevirtual 72, 206, 2, 1, []), (37, .istore_n 2, 2, 0, 0, []), (38, .aload_n 0, 0, 0, 0, []), (39, .bipush (-43), 0, 0, 0, []), (41, .invokevirtual 55, 200, 2, 0, []), (44, .iinc 3 1, 3, 0, 0, []), (47, .goto (-39), 1, 0, 0, [])])
def mk_b205_2 : List Bool × List mj_I := ([false, false, true, false], [(50, .iload_n 2, 2, 0, 0, []), (51, .ireturn, 0, 0, 1, [])])
def mk_m205 : Nat × List (List Bool × List mj_I) := (4, [mk_b205_0, mk_b205_1, mk_b205_2])
/-- NumbersCalled$Tape.readOne(I)Z -/
def mk_b206_0 : List Bool × List mj_I := ([true, true, false], [(0, .aload_n 0, 0, 0, 0, []), (1, .getfield 36, 7, 5, 0, []), (4, .bipush 45, 0, 0, 0, []), (6, .if_icmp .ne (11), 1, 0, 0, []), (9, .aload_n 0, 0, 0, 0, []), (10, .bipush 12, 0, 0, 0, []), (12, .iload_n 1, 1, 0, 0, []), (13, .invokevirtual 62, 207, 3, 1, []), (16, .ireturn, 0, 0, 1, [])])
def mk_b206_1 : List Bool × List mj_I := ([true, true, false], [(17, .aload_n 0, 0, 0, 0, []), (18, .getfield 36, 7, 5, 0, []), (21, .bipush 40, 0, 0, 0, []), (23, .if_icmp .ne (11), 2, 0, 0, []), (26, .aload_n 0, 0, 0, 0, []), (27, .bipush 40, 0, 0, 0, []), (29, .iload_n 1, 1, 0, 0, []), (30, .invokevirtual 62, 207, 3, 1, []), (33, .ireturn, 0, 0, 1, [])])
def mk_b206_2 : List Bool × List mj_I := ([true, false, false], [(34, .aload_n 0, 0, 0, 0, []), (35, .getfield 36, 7, 5, 0, []), (38, .bipush 6, 0, 0, 0, []), (40, .bipush 11, 0, 0, 0, []), (42, .invokestatic 75, 44, 3, 1, []), (45, .istore_n 2, 2, 0, 0, []), (46, .aload_n 0, 0, 0, 0, []), (47, .getfield 36, 7, 5, 0, []), (50, .bipush 13, 0, 0, 0, []), (52, .if_icmp .eq (9), 3, 0, 0, []), (55, .iload_n 2, 2, 0, 0, []), (56, .ifCond .ne (5), 3, 0, 0, []), (59, .iconst 0, 0, 0, 0, []), (60, .ireturn, 0, 0, 1, [])])
def mk_b206_3 : List Bool × List mj_I := ([true, false, true], [(61, .aload_n 0, 0, 0, 0, []), (62, .iload_n 2, 2, 0, 0, []), (63, .ifCond .eq (12), 4, 0, 0, []), (66, .aload_n 0, 0, 0, 0, []), (67, .getfield 36, 7, 5, 0, []), (70, .iconst (-1), 0, 0, 0, []), (71, .ixor, 0, 0, 0, []), (72, .goto (7), 5, 0, 0, [])])
def mk_b206_4 : List Bool × List mj_I := ([true, false, false], [(75, .aload_n 0, 0, 0, 0, []), (76, .getfield 39, 8, 5, 0, []), (79, .nop, 5, 0, 0, [])])
def mk_b206_5 : List Bool × List mj_I := ([true, false, false], [(79, .invokevirtual 55, 200, 2, 0, []), (82, .aload_n 0, 0, 0, 0, []), (83, .invokevirtual 42, 208, 1, 0, []), (86, .iconst 1, 0, 0, 0, []), (87, .ireturn, 0, 0, 1, [])])
def mk_m206 : Nat × List (List Bool × List mj_I) := (3, [mk_b206_0, mk_b206_1, mk_b206_2, mk_b206_3, mk_b206_4, mk_b206_5])
/-- NumbersCalled$Tape.readBehind(II)Z -/
def mk_b207_0 : List Bool × List mj_I := ([true, true, true, false], [(0, .iload_n 2, 2, 0, 0, []), (1, .iconst 5, 0, 0, 0, []), (2, .if_icmp .lt (5), 1, 0, 0, []), (5, .iconst 0, 0, 0, 0, []), (6, .ireturn, 0, 0, 1, [])])
def mk_b207_1 : List Bool × List mj_I := ([true, true, true, false], [(7, .aload_n 0, 0, 0, 0, []), (8, .invokevirtual 42, 208, 1, 0, []), (11, .iload_n 1, 1, 0, 0, []), (12, .bipush 40, 0, 0, 0, []), (14, .if_icmp .ne (28), 4, 0, 0, []), (17, .aload_n 0, 0, 0, 0, []), (18, .iload_n 2, 2, 0, 0, []), (19, .iconst 1, 0, 0, 0, []), (20, .iadd, 0, 0, 0, []), (21, .invokevirtual 49, 201, 2, 1, []), (24, .ifCond .eq (16), 2, 0, 0, []), (27, .aload_n 0, 0, 0, 0, []), (28, .bipush 41, 0, 0, 0, []), (30, .invokevirtual 45, 199, 2, 1, []), (33, .ifCond .eq (7), 2, 0, 0, []), (36, .iconst 1, 0, 0, 0, []), (37, .goto (4), 3, 0, 0, [])])
def mk_b207_2 : List Bool × List mj_I := ([false, false, false, false], [(40, .iconst 0, 0, 0, 0, []), (41, .nop, 3, 0, 0, [])])
def mk_b207_3 : List Bool × List mj_I := ([false, false, false, false], [(41, .ireturn, 0, 0, 1, [])])
def mk_b207_4 : List Bool × List mj_I := ([true, true, true, false], [(42, .iload_n 1, 1, 0, 0, []), (43, .iconst 5, 0, 0, 0, []), (44, .if_icmp .ne (13), 5, 0, 0, []), (47, .aload_n 0, 0, 0, 0, []), (48, .iload_n 2, 2, 0, 0, []), (49, .iconst 1, 0, 0, 0, []), (50, .iadd, 0, 0, 0, []), (51, .invokevirtual 59, 203, 2, 1, []), (54, .goto (10), 6, 0, 0, [])])
def mk_b207_5 : List Bool × List mj_I := ([true, true, true, false], [(57, .aload_n 0, 0, 0, 0, []), (58, .iload_n 2, 2, 0, 0, []), (59, .iconst 1, 0, 0, 0, []), (60, .iadd, 0, 0, 0, []), (61, .invokevirtual 72, 206, 2, 1, []), (64, .nop, 6, 0, 0, [])])
def mk_b207_6 : List Bool × List mj_I := ([true, true, false, false], [(64, .istore_n 3, 3, 0, 0, []), (65, .aload_n 0, 0, 0, 0, []), (66, .iload_n 1, 1, 0, 0, []), (67, .iconst (-1), 0, 0, 0, []), (68, .ixor, 0, 0, 0, []), (69, .invokevirtual 55, 200, 2, 0, []), (72, .iload_n 3, 3, 0, 0, []), (73, .ireturn, 0, 0, 1, [])])
def mk_m207 : Nat × List (List Bool × List mj_I) := (4, [mk_b207_0, mk_b207_1, mk_b207_2, mk_b207_3, mk_b207_4, mk_b207_5, mk_b207_6])
/-- NumbersCalled$Tape.step()V -/
def mk_b208_0 : List Bool × List mj_I := ([true, false], [(0, .aload_n 0, 0, 0, 0, []), (1, .getfield 30, 5, 5, 0, []), (4, .aload_n 0, 0, 0, 0, []), (5, .getfield 15, 1, 5, 0, []), (8, .if_icmp .ge (44), 2, 0, 0, []), (11, .aload_n 0, 0, 0, 0, []), (12, .getfield 9, 0, 5, 0, []), (15, .aload_n 0, 0, 0, 0, []), (16, .getfield 30, 5, 5, 0, []), (19, .iaload, 0, 0, 0, []), (20, .bipush 32, 0, 0, 0, []), (22, .if_icmp .eq (17), 1, 0, 0, []), (25, .aload_n 0, 0, 0, 0, []), (26, .getfield 9, 0, 5, 0, []), (29, .aload_n 0, 0, 0, 0, []), (30, .getfield 30, 5, 5, 0, []), (33, .iaload, 0, 0, 0, []), (34, .bipush 10, 0, 0, 0, []), (36, .if_icmp .ne (16), 2, 0, 0, []), (39, .nop, 1, 0, 0, [])])
def mk_b208_1 : List Bool × List mj_I := ([true, false], [(39, .aload_n 0, 0, 0, 0, []), (40, .dup, 0, 0, 0, []), (41, .getfield 30, 5, 5, 0, []), (44, .iconst 1, 0, 0, 0, []), (45, .iadd, 0, 0, 0, []), (46, .putfield 30, 5, 5, 0, []), (49, .goto (-49), 0, 0, 0, [])])
def mk_b208_2 : List Bool × List mj_I := ([true, false], [(52, .aload_n 0, 0, 0, 0, []), (53, .aload_n 0, 0, 0, 0, []), (54, .getfield 30, 5, 5, 0, []), (57, .putfield 33, 6, 5, 0, []), (60, .aload_n 0, 0, 0, 0, []), (61, .getfield 30, 5, 5, 0, []), (64, .aload_n 0, 0, 0, 0, []), (65, .getfield 15, 1, 5, 0, []), (68, .if_icmp .lt (10), 3, 0, 0, []), (71, .aload_n 0, 0, 0, 0, []), (72, .bipush 14, 0, 0, 0, []), (74, .putfield 36, 7, 5, 0, []), (77, .return_, 0, 0, 0, [])])
def mk_b208_3 : List Bool × List mj_I := ([true, false], [(78, .aload_n 0, 0, 0, 0, []), (79, .getfield 9, 0, 5, 0, []), (82, .aload_n 0, 0, 0, 0, []), (83, .getfield 30, 5, 5, 0, []), (86, .iaload, 0, 0, 0, []), (87, .istore_n 1, 1, 0, 0, []), (88, .iload_n 1, 1, 0, 0, []), (89, .bipush 97, 0, 0, 0, []), (91, .bipush 122, 0, 0, 0, []), (93, .invokestatic 75, 44, 3, 1, []), (96, .ifCond .eq (22), 4, 0, 0, []), (99, .aload_n 0, 0, 0, 0, []), (100, .bipush 97, 0, 0, 0, []), (102, .bipush 122, 0, 0, 0, []), (104, .invokevirtual 79, 209, 3, 0, []), (107, .aload_n 0, 0, 0, 0, []), (108, .aload_n 0, 0, 0, 0, []), (109, .invokevirtual 83, 212, 1, 1, []), (112, .putfield 36, 7, 5, 0, []), (115, .goto (60), 8, 0, 0, [])])
def mk_b208_4 : List Bool × List mj_I := ([true, true], [(118, .iload_n 1, 1, 0, 0, []), (119, .bipush 48, 0, 0, 0, []), (121, .bipush 57, 0, 0, 0, []), (123, .invokestatic 75, 44, 3, 1, []), (126, .ifCond .eq (22), 5, 0, 0, []), (129, .aload_n 0, 0, 0, 0, []), (130, .bipush 48, 0, 0, 0, []), (132, .bipush 57, 0, 0, 0, []), (134, .invokevirtual 79, 209, 3, 0, []), (137, .aload_n 0, 0, 0, 0, []), (138, .aload_n 0, 0, 0, 0, []), (139, .invokevirtual 87, 211, 1, 1, []), (142, .putfield 36, 7, 5, 0, []), (145, .goto (30), 8, 0, 0, [])])
def mk_b208_5 : List Bool × List mj_I := ([true, true], [(148, .aload_n 0, 0, 0, 0, []), (149, .dup, 0, 0, 0, []), (150, .getfield 30, 5, 5, 0, []), (153, .iconst 1, 0, 0, 0, []), (154, .iadd, 0, 0, 0, []), (155, .putfield 30, 5, 5, 0, []), (158, .aload_n 0, 0, 0, 0, []), (159, .iload_n 1, 1, 0, 0, []), (160, .invokestatic 90, 210, 1, 1, []), (163, .ifCond .eq (7), 6, 0, 0, []), (166, .iload_n 1, 1, 0, 0, []), (167, .goto (5), 7, 0, 0, [])])
def mk_b208_6 : List Bool × List mj_I := ([false, false], [(170, .bipush 15, 0, 0, 0, []), (172, .nop, 7, 0, 0, [])])
def mk_b208_7 : List Bool × List mj_I := ([false, false], [(172, .putfield 36, 7, 5, 0, []), (175, .nop, 8, 0, 0, [])])
def mk_b208_8 : List Bool × List mj_I := ([false, false], [(175, .return_, 0, 0, 0, [])])
def mk_m208 : Nat × List (List Bool × List mj_I) := (2, [mk_b208_0, mk_b208_1, mk_b208_2, mk_b208_3, mk_b208_4, mk_b208_5, mk_b208_6, mk_b208_7, mk_b208_8])
/-- NumbersCalled$Tape.passAll(II)V -/
def mk_b209_0 : List Bool × List mj_I := ([true, true, true], [(0, .aload_n 0, 0, 0, 0, []), (1, .getfield 30, 5, 5, 0, []), (4, .aload_n 0, 0, 0, 0, []), (5, .getfield 15, 1, 5, 0, []), (8, .if_icmp .ge (33), 1, 0, 0, []), (11, .aload_n 0, 0, 0, 0, []), (12, .getfield 9, 0, 5, 0, []), (15, .aload_n 0, 0, 0, 0, []), (16, .getfield 30, 5, 5, 0, []), (19, .iaload, 0, 0, 0, []), (20, .iload_n 1, 1, 0, 0, []), (21, .iload_n 2, 2, 0, 0, []), (22, .invokestatic 75, 44, 3, 1, []), (25, .ifCond .eq (16), 1, 0, 0, []), (28, .aload_n 0, 0, 0, 0, []), (29, .dup, 0, 0, 0, []), (30, .getfield 30, 5, 5, 0, []), (33, .iconst 1, 0, 0, 0, []), (34, .iadd, 0, 0, 0, []), (35, .putfield 30, 5, 5, 0, []), (38, .goto (-38), 0, 0, 0, [])])
def mk_b209_1 : List Bool × List mj_I := ([false, false, false], [(41, .return_, 0, 0, 0, [])])
def mk_m209 : Nat × List (List Bool × List mj_I) := (3, [mk_b209_0, mk_b209_1])
/-- NumbersCalled$Tape.isSign(I)Z -/
def mk_b210_0 : List Bool × List mj_I := ([true], [(0, .iload_n 0, 0, 0, 0, []), (1, .bipush 40, 0, 0, 0, []), (3, .if_icmp .eq (45), 1, 0, 0, []), (6, .iload_n 0, 0, 0, 0, []), (7, .bipush 41, 0, 0, 0, []), (9, .if_icmp .eq (39), 1, 0, 0, []), (12, .iload_n 0, 0, 0, 0, []), (13, .bipush 59, 0, 0, 0, []), (15, .if_icmp .eq (33), 1, 0, 0, []), (18, .iload_n 0, 0, 0, 0, []), (19, .bipush 43, 0, 0, 0, []), (21, .if_icmp .eq (27), 1, 0, 0, []), (24, .iload_n 0, 0, 0, 0, []), (25, .bipush 45, 0, 0, 0, []), (27, .if_icmp .eq (21), 1, 0, 0, []), (30, .iload_n 0, 0, 0, 0, []), (31, .bipush 42, 0, 0, 0, []), (33, .if_icmp .eq (15), 1, 0, 0, []), (36, .iload_n 0, 0, 0, 0, []), (37, .bipush 60, 0, 0, 0, []), (39, .if_icmp .eq (9), 1, 0, 0, []), (42, .iload_n 0, 0, 0, 0, []), (43, .bipush 61, 0, 0, 0, []), (45, .if_icmp .ne (7), 2, 0, 0, []), (48, .nop, 1, 0, 0, [])])
def mk_b210_1 : List Bool × List mj_I := ([false], [(48, .iconst 1, 0, 0, 0, []), (49, .goto (4), 3, 0, 0, [])])
def mk_b210_2 : List Bool × List mj_I := ([false], [(52, .iconst 0, 0, 0, 0, []), (53, .nop, 3, 0, 0, [])])
def mk_b210_3 : List Bool × List mj_I := ([false], [(53, .ireturn, 0, 0, 1, [])])
def mk_m210 : Nat × List (List Bool × List mj_I) := (1, [mk_b210_0, mk_b210_1, mk_b210_2, mk_b210_3])
/-- NumbersCalled$Tape.numberToken()I -/
def mk_b211_0 : List Bool × List mj_I := ([true, false], [(0, .aload_n 0, 0, 0, 0, []), (1, .getfield 30, 5, 5, 0, []), (4, .aload_n 0, 0, 0, 0, []), (5, .getfield 33, 6, 5, 0, []), (8, .isub, 0, 0, 0, []), (9, .iconst 4, 0, 0, 0, []), (10, .if_icmp .le (6), 1, 0, 0, []), (13, .bipush 15, 0, 0, 0, []), (15, .ireturn, 0, 0, 0, [])])
def mk_b211_1 : List Bool × List mj_I := ([true, false], [(16, .aload_n 0, 0, 0, 0, []), (17, .iconst 0, 0, 0, 0, []), (18, .putfield 39, 8, 5, 0, []), (21, .aload_n 0, 0, 0, 0, []), (22, .getfield 33, 6, 5, 0, []), (25, .istore_n 1, 1, 0, 0, []), (26, .nop, 2, 0, 0, [])])
def mk_b211_2 : List Bool × List mj_I := ([true, true], [(26, .iload_n 1, 1, 0, 0, []), (27, .aload_n 0, 0, 0, 0, []), (28, .getfield 30, 5, 5, 0, []), (31, .if_icmp .ge (30), 3, 0, 0, []), (34, .aload_n 0, 0, 0, 0, []), (35, .aload_n 0, 0, 0, 0, []), (36, .getfield 39, 8, 5, 0, []), (39, .bipush 10, 0, 0, 0, []), (41, .imul, 0, 0, 0, []), (42, .aload_n 0, 0, 0, 0, []), (43, .getfield 9, 0, 5, 0, []), (46, .iload_n 1, 1, 0, 0, []), (47, .iaload, 0, 0, 0, []), (48, .iadd, 0, 0, 0, []), (49, .bipush 48, 0, 0, 0, []), (51, .isub, 0, 0, 0, []), (52, .putfield 39, 8, 5, 0, []), (55, .iinc 1 1, 1, 0, 0, []), (58, .goto (-32), 2, 0, 0, [])])
def mk_b211_3 : List Bool × List mj_I := ([false, false], [(61, .bipush 13, 0, 0, 0, []), (63, .ireturn, 0, 0, 0, [])])
def mk_m211 : Nat × List (List Bool × List mj_I) := (2, [mk_b211_0, mk_b211_1, mk_b211_2, mk_b211_3])
/-- NumbersCalled$Tape.wordToken()I -/
def mk_b212_0 : List Bool × List mj_I := ([true, false], [(0, .aload_n 0, 0, 0, 0, []), (1, .getfield 30, 5, 5, 0, []), (4, .aload_n 0, 0, 0, 0, []), (5, .getfield 33, 6, 5, 0, []), (8, .isub, 0, 0, 0, []), (9, .bipush 6, 0, 0, 0, []), (11, .if_icmp .le (6), 1, 0, 0, []), (14, .bipush 15, 0, 0, 0, []), (16, .ireturn, 0, 0, 0, [])])
def mk_b212_1 : List Bool × List mj_I := ([true, false], [(17, .iconst 0, 0, 0, 0, []), (18, .istore_n 1, 1, 0, 0, []), (19, .nop, 2, 0, 0, [])])
def mk_b212_2 : List Bool × List mj_I := ([true, true], [(19, .iload_n 1, 1, 0, 0, []), (20, .bipush 12, 0, 0, 0, []), (22, .if_icmp .ge (19), 4, 0, 0, []), (25, .aload_n 0, 0, 0, 0, []), (26, .iload_n 1, 1, 0, 0, []), (27, .invokevirtual 93, 213, 2, 1, []), (30, .ifCond .eq (5), 3, 0, 0, []), (33, .iload_n 1, 1, 0, 0, []), (34, .ireturn, 0, 0, 0, [])])
def mk_b212_3 : List Bool × List mj_I := ([true, true], [(35, .iinc 1 1, 1, 0, 0, []), (38, .goto (-19), 2, 0, 0, [])])
def mk_b212_4 : List Bool × List mj_I := ([false, false], [(41, .bipush 15, 0, 0, 0, []), (43, .ireturn, 0, 0, 0, [])])
def mk_m212 : Nat × List (List Bool × List mj_I) := (2, [mk_b212_0, mk_b212_1, mk_b212_2, mk_b212_3, mk_b212_4])
/-- NumbersCalled$Tape.isWord(I)Z -/
def mk_b213_0 : List Bool × List mj_I := ([true, true, false, false], [(0, .iconst 0, 0, 0, 0, []), (1, .istore_n 2, 2, 0, 0, []), (2, .nop, 1, 0, 0, [])])
def mk_b213_1 : List Bool × List mj_I := ([true, true, true, false], [(2, .iload_n 2, 2, 0, 0, []), (3, .bipush 6, 0, 0, 0, []), (5, .if_icmp .ge (56), 5, 0, 0, []), (8, .aload_n 0, 0, 0, 0, []), (9, .getfield 33, 6, 5, 0, []), (12, .iload_n 2, 2, 0, 0, []), (13, .iadd, 0, 0, 0, []), (14, .aload_n 0, 0, 0, 0, []), (15, .getfield 30, 5, 5, 0, []), (18, .if_icmp .ge (17), 2, 0, 0, []), (21, .aload_n 0, 0, 0, 0, []), (22, .getfield 9, 0, 5, 0, []), (25, .aload_n 0, 0, 0, 0, []), (26, .getfield 33, 6, 5, 0, []), (29, .iload_n 2, 2, 0, 0, []), (30, .iadd, 0, 0, 0, []), (31, .iaload, 0, 0, 0, []), (32, .goto (5), 3, 0, 0, [])])
def mk_b213_2 : List Bool × List mj_I := ([true, true, true, false], [(35, .bipush 32, 0, 0, 0, []), (37, .nop, 3, 0, 0, [])])
def mk_b213_3 : List Bool × List mj_I := ([true, true, true, false], [(37, .istore_n 3, 3, 0, 0, []), (38, .ldc 96, 63, 0, 1, []), (40, .iload_n 1, 1, 0, 0, []), (41, .bipush 6, 0, 0, 0, []), (43, .imul, 0, 0, 0, []), (44, .iload_n 2, 2, 0, 0, []), (45, .iadd, 0, 0, 0, []), (46, .invokevirtual 98, 0, 0, 7, []), (49, .iload_n 3, 3, 0, 0, []), (50, .if_icmp .eq (5), 4, 0, 0, []), (53, .iconst 0, 0, 0, 0, []), (54, .ireturn, 0, 0, 1, [])])
def mk_b213_4 : List Bool × List mj_I := ([true, true, true, false], [(55, .iinc 2 1, 2, 0, 0, []), (58, .goto (-56), 1, 0, 0, [])])
def mk_b213_5 : List Bool × List mj_I := ([false, false, false, false], [(61, .iconst 1, 0, 0, 0, []), (62, .ireturn, 0, 0, 1, [])])
def mk_m213 : Nat × List (List Bool × List mj_I) := (4, [mk_b213_0, mk_b213_1, mk_b213_2, mk_b213_3, mk_b213_4, mk_b213_5])
/-- NumbersCalled$Text.become(LNumbersCalled$Tape;)V -/
def mk_b214_0 : List Bool × List mj_I := ([true, true, false], [(0, .iconst 0, 0, 0, 0, []), (1, .istore_n 2, 2, 0, 0, []), (2, .nop, 1, 0, 0, [])])
def mk_b214_1 : List Bool × List mj_I := ([true, true, true], [(2, .iload_n 2, 2, 0, 0, []), (3, .sipush 160, 0, 0, 0, []), (6, .if_icmp .ge (21), 2, 0, 0, []), (9, .aload_n 0, 0, 0, 0, []), (10, .getfield 9, 0, 6, 0, []), (13, .iload_n 2, 2, 0, 0, []), (14, .aload_n 1, 1, 0, 0, []), (15, .getfield 24, 2, 5, 0, []), (18, .iload_n 2, 2, 0, 0, []), (19, .iaload, 0, 0, 0, []), (20, .iastore, 0, 0, 0, []), (21, .iinc 2 1, 2, 0, 0, []), (24, .goto (-22), 1, 0, 0, [])])
def mk_b214_2 : List Bool × List mj_I := ([true, true, false], [(27, .iconst 0, 0, 0, 0, []), (28, .istore_n 2, 2, 0, 0, []), (29, .nop, 3, 0, 0, [])])
def mk_b214_3 : List Bool × List mj_I := ([true, true, true], [(29, .iload_n 2, 2, 0, 0, []), (30, .iconst 2, 0, 0, 0, []), (31, .if_icmp .gt (21), 4, 0, 0, []), (34, .aload_n 0, 0, 0, 0, []), (35, .getfield 15, 1, 6, 0, []), (38, .iload_n 2, 2, 0, 0, []), (39, .aload_n 1, 1, 0, 0, []), (40, .getfield 27, 3, 5, 0, []), (43, .iload_n 2, 2, 0, 0, []), (44, .iaload, 0, 0, 0, []), (45, .iastore, 0, 0, 0, []), (46, .iinc 2 1, 2, 0, 0, []), (49, .goto (-20), 3, 0, 0, [])])
def mk_b214_4 : List Bool × List mj_I := ([false, false, false], [(52, .return_, 0, 0, 0, [])])
def mk_m214 : Nat × List (List Bool × List mj_I) := (3, [mk_b214_0, mk_b214_1, mk_b214_2, mk_b214_3, mk_b214_4])
/-- NumbersCalled$Text.worth(ILNumbersCalled$Asker;III)I -/
def mk_b215_0 : List Bool × List mj_I := ([true, true, true, true, true, true, false, false, false, false, false], [(0, .aload_n 0, 0, 0, 0, []), (1, .getfield 21, 3, 6, 0, []), (4, .iconst 0, 0, 0, 0, []), (5, .aload_n 2, 2, 0, 0, []), (6, .getfield 28, 2, 0, 0, []), (9, .iastore, 0, 0, 0, []), (10, .aload_n 0, 0, 0, 0, []), (11, .getfield 21, 3, 6, 0, []), (14, .iconst 1, 0, 0, 0, []), (15, .aload_n 2, 2, 0, 0, []), (16, .getfield 34, 3, 0, 0, []), (19, .iastore, 0, 0, 0, []), (20, .aload_n 0, 0, 0, 0, []), (21, .getfield 21, 3, 6, 0, []), (24, .iconst 2, 0, 0, 0, []), (25, .iload 4, 4, 0, 0, []), (27, .iastore, 0, 0, 0, []), (28, .aload_n 0, 0, 0, 0, []), (29, .getfield 21, 3, 6, 0, []), (32, .iconst 3, 0, 0, 0, []), (33, .iload_n 3, 3, 0, 0, []), (34, .iastore, 0, 0, 0, []), (35, .aload_n 0, 0, 0, 0, []), (36, .getfield 21, 3, 6, 0, []), (39, .iconst 4, 0, 0, 0, []), (40, .iload 5, 5, 0, 0, []), (42, .iastore, 0, 0, 0, []), (43, .aload_n 0, 0, 0, 0, []), (44, .getfield 21, 3, 6, 0, []), (47, .iconst 5, 0, 0, 0, []), (48, .aload_n 2, 2, 0, 0, []), (49, .getfield 37, 1, 0, 0, []), (52, .iastore, 0, 0, 0, []), (53, .iconst 0, 0, 0, 0, []), (54, .istore 6, 6, 0, 0, []), (56, .iload_n 1, 1, 0, 0, []), (57, .ifCond .ne (7), 1, 0, 0, []), (60, .iconst 0, 0, 0, 0, []), (61, .goto (11), 2, 0, 0, [])])
def mk_b215_1 : List Bool × List mj_I := ([true, true, false, false, false, false, true, false, false, false, false], [(64, .aload_n 0, 0, 0, 0, []), (65, .getfield 15, 1, 6, 0, []), (68, .iload_n 1, 1, 0, 0, []), (69, .iconst 1, 0, 0, 0, []), (70, .isub, 0, 0, 0, []), (71, .iaload, 0, 0, 0, []), (72, .nop, 2, 0, 0, [])])
def mk_b215_2 : List Bool × List mj_I := ([true, true, false, false, false, false, true, false, false, false, false], [(72, .istore 7, 7, 0, 0, []), (74, .nop, 3, 0, 0, [])])
def mk_b215_3 : List Bool × List mj_I := ([true, true, false, false, false, false, true, true, false, false, false], [(74, .iload 7, 7, 0, 0, []), (76, .aload_n 0, 0, 0, 0, []), (77, .getfield 15, 1, 6, 0, []), (80, .iload_n 1, 1, 0, 0, []), (81, .iaload, 0, 0, 0, []), (82, .if_icmp .ge (199), 16, 0, 0, []), (85, .aload_n 0, 0, 0, 0, []), (86, .getfield 9, 0, 6, 0, []), (89, .iload 7, 7, 0, 0, []), (91, .iaload, 0, 0, 0, []), (92, .iconst (-1), 0, 0, 0, []), (93, .ixor, 0, 0, 0, []), (94, .istore 8, 8, 0, 0, []), (96, .iload 8, 8, 0, 0, []), (98, .bipush 6, 0, 0, 0, []), (100, .if_icmp .lt (14), 4, 0, 0, []), (103, .iload 8, 8, 0, 0, []), (105, .bipush 11, 0, 0, 0, []), (107, .if_icmp .gt (7), 4, 0, 0, []), (110, .iconst 1, 0, 0, 0, []), (111, .goto (4), 5, 0, 0, [])])
def mk_b215_4 : List Bool × List mj_I := ([true, true, false, false, false, false, true, true, true, false, false], [(114, .iconst 0, 0, 0, 0, []), (115, .nop, 5, 0, 0, [])])
def mk_b215_5 : List Bool × List mj_I := ([true, true, false, false, false, false, true, true, true, false, false], [(115, .istore 9, 9, 0, 0, []), (117, .iload 8, 8, 0, 0, []), (119, .ifCond .lt (8), 6, 0, 0, []), (122, .iload 9, 9, 0, 0, []), (124, .ifCond .eq (48), 9, 0, 0, []), (127, .nop, 6, 0, 0, [])])
def mk_b215_6 : List Bool × List mj_I := ([true, true, false, false, false, false, true, true, true, true, false], [(127, .iload 6, 6, 0, 0, []), (129, .bipush 32, 0, 0, 0, []), (131, .if_icmp .ge (144), 15, 0, 0, []), (134, .aload_n 0, 0, 0, 0, []), (135, .getfield 18, 2, 6, 0, []), (138, .iload 6, 6, 0, 0, []), (140, .iload 9, 9, 0, 0, []), (142, .ifCond .eq (16), 7, 0, 0, []), (145, .aload_n 0, 0, 0, 0, []), (146, .getfield 21, 3, 6, 0, []), (149, .iload 8, 8, 0, 0, []), (151, .bipush 6, 0, 0, 0, []), (153, .isub, 0, 0, 0, []), (154, .iaload, 0, 0, 0, []), (155, .goto (10), 8, 0, 0, [])])
def mk_b215_7 : List Bool × List mj_I := ([true, true, false, false, false, false, true, true, false, false, false], [(158, .aload_n 0, 0, 0, 0, []), (159, .getfield 9, 0, 6, 0, []), (162, .iload 7, 7, 0, 0, []), (164, .iaload, 0, 0, 0, []), (165, .nop, 8, 0, 0, [])])
def mk_b215_8 : List Bool × List mj_I := ([true, true, false, false, false, false, true, true, false, false, false], [(165, .iastore, 0, 0, 0, []), (166, .iinc 6 1, 6, 0, 0, []), (169, .goto (106), 15, 0, 0, [])])
def mk_b215_9 : List Bool × List mj_I := ([true, true, false, false, false, false, true, true, true, false, false], [(172, .iload 8, 8, 0, 0, []), (174, .iconst 5, 0, 0, 0, []), (175, .if_icmp .eq (10), 10, 0, 0, []), (178, .iload 8, 8, 0, 0, []), (180, .bipush 12, 0, 0, 0, []), (182, .if_icmp .ne (54), 14, 0, 0, []), (185, .nop, 10, 0, 0, [])])
def mk_b215_10 : List Bool × List mj_I := ([true, true, false, false, false, false, true, true, true, false, false], [(185, .iload 6, 6, 0, 0, []), (187, .ifCond .le (88), 15, 0, 0, []), (190, .aload_n 0, 0, 0, 0, []), (191, .getfield 18, 2, 6, 0, []), (194, .iload 6, 6, 0, 0, []), (196, .iconst 1, 0, 0, 0, []), (197, .isub, 0, 0, 0, []), (198, .iaload, 0, 0, 0, []), (199, .istore 10, 10, 0, 0, []), (201, .aload_n 0, 0, 0, 0, []), (202, .getfield 18, 2, 6, 0, []), (205, .iload 6, 6, 0, 0, []), (207, .iconst 1, 0, 0, 0, []), (208, .isub, 0, 0, 0, []), (209, .iload 8, 8, 0, 0, []), (211, .bipush 12, 0, 0, 0, []), (213, .if_icmp .ne (9), 11, 0, 0, []), (216, .iload 10, 10, 0, 0, []), (218, .ineg, 0, 0, 0, []), (219, .goto (13), 13, 0, 0, [])])
def mk_b215_11 : List Bool × List mj_I := ([true, true, false, false, false, false, true, true, false, false, true], [(222, .iload 10, 10, 0, 0, []), (224, .ifCond .ne (7), 12, 0, 0, []), (227, .iconst 1, 0, 0, 0, []), (228, .goto (4), 13, 0, 0, [])])
def mk_b215_12 : List Bool × List mj_I := ([true, true, false, false, false, false, true, true, false, false, false], [(231, .iconst 0, 0, 0, 0, []), (232, .nop, 13, 0, 0, [])])
def mk_b215_13 : List Bool × List mj_I := ([true, true, false, false, false, false, true, true, false, false, false], [(232, .iastore, 0, 0, 0, []), (233, .goto (42), 15, 0, 0, [])])
def mk_b215_14 : List Bool × List mj_I := ([true, true, false, false, false, false, true, true, true, false, false], [(236, .iload 6, 6, 0, 0, []), (238, .iconst 1, 0, 0, 0, []), (239, .if_icmp .le (36), 15, 0, 0, []), (242, .iinc 6 (-1), 6, 0, 0, []), (245, .aload_n 0, 0, 0, 0, []), (246, .getfield 18, 2, 6, 0, []), (249, .iload 6, 6, 0, 0, []), (251, .iconst 1, 0, 0, 0, []), (252, .isub, 0, 0, 0, []), (253, .iload 8, 8, 0, 0, []), (255, .aload_n 0, 0, 0, 0, []), (256, .getfield 18, 2, 6, 0, []), (259, .iload 6, 6, 0, 0, []), (261, .iconst 1, 0, 0, 0, []), (262, .isub, 0, 0, 0, []), (263, .iaload, 0, 0, 0, []), (264, .aload_n 0, 0, 0, 0, []), (265, .getfield 18, 2, 6, 0, []), (268, .iload 6, 6, 0, 0, []), (270, .iaload, 0, 0, 0, []), (271, .invokestatic 40, 216, 3, 1, []), (274, .iastore, 0, 0, 0, []), (275, .nop, 15, 0, 0, [])])
def mk_b215_15 : List Bool × List mj_I := ([true, true, false, false, false, false, true, true, false, false, false], [(275, .iinc 7 1, 7, 0, 0, []), (278, .goto (-204), 3, 0, 0, [])])
def mk_b215_16 : List Bool × List mj_I := ([true, false, false, false, false, false, true, false, false, false, false], [(281, .iload 6, 6, 0, 0, []), (283, .ifCond .le (12), 17, 0, 0, []), (286, .aload_n 0, 0, 0, 0, []), (287, .getfield 18, 2, 6, 0, []), (290, .iconst 0, 0, 0, 0, []), (291, .iaload, 0, 0, 0, []), (292, .goto (4), 18, 0, 0, [])])
def mk_b215_17 : List Bool × List mj_I := ([false, false, false, false, false, false, false, false, false, false, false], [(295, .iconst 0, 0, 0, 0, []), (296, .nop, 18, 0, 0, [])])
def mk_b215_18 : List Bool × List mj_I := ([false, false, false, false, false, false, false, false, false, false, false], [(296, .ireturn, 0, 0, 0, [])])
def mk_m215 : Nat × List (List Bool × List mj_I) := (11, [mk_b215_0, mk_b215_1, mk_b215_2, mk_b215_3, mk_b215_4, mk_b215_5, mk_b215_6, mk_b215_7, mk_b215_8, mk_b215_9, mk_b215_10, mk_b215_11, mk_b215_12, mk_b215_13, mk_b215_14, mk_b215_15, mk_b215_16, mk_b215_17, mk_b215_18])
/-- NumbersCalled$Text.joined(III)I -/
def mk_b216_0 : List Bool × List mj_I := ([true, true, true], [(0, .iload_n 0, 0, 0, 0, []), (1, .lookupswitch (117) #[(3, 59), (4, 73), (43, 109), (45, 113), (60, 87), (61, 98)], 16, 0, 0, [(3, 1), (4, 5), (43, 14), (45, 15), (60, 8), (61, 11)])])
def mk_b216_1 : List Bool × List mj_I := ([false, true, true], [(60, .iload_n 1, 1, 0, 0, []), (61, .ifCond .ne (7), 2, 0, 0, []), (64, .iload_n 2, 2, 0, 0, []), (65, .ifCond .eq (7), 3, 0, 0, []), (68, .nop, 2, 0, 0, [])])
def mk_b216_2 : List Bool × List mj_I := ([false, false, false], [(68, .iconst 1, 0, 0, 0, []), (69, .goto (4), 4, 0, 0, [])])
def mk_b216_3 : List Bool × List mj_I := ([false, false, false], [(72, .iconst 0, 0, 0, 0, []), (73, .nop, 4, 0, 0, [])])
def mk_b216_4 : List Bool × List mj_I := ([false, false, false], [(73, .ireturn, 0, 0, 0, [])])
def mk_b216_5 : List Bool × List mj_I := ([false, true, true], [(74, .iload_n 1, 1, 0, 0, []), (75, .ifCond .eq (11), 6, 0, 0, []), (78, .iload_n 2, 2, 0, 0, []), (79, .ifCond .eq (7), 6, 0, 0, []), (82, .iconst 1, 0, 0, 0, []), (83, .goto (4), 7, 0, 0, [])])
def mk_b216_6 : List Bool × List mj_I := ([false, false, false], [(86, .iconst 0, 0, 0, 0, []), (87, .nop, 7, 0, 0, [])])
def mk_b216_7 : List Bool × List mj_I := ([false, false, false], [(87, .ireturn, 0, 0, 0, [])])
def mk_b216_8 : List Bool × List mj_I := ([false, true, true], [(88, .iload_n 1, 1, 0, 0, []), (89, .iload_n 2, 2, 0, 0, []), (90, .if_icmp .ge (7), 9, 0, 0, []), (93, .iconst 1, 0, 0, 0, []), (94, .goto (4), 10, 0, 0, [])])
def mk_b216_9 : List Bool × List mj_I := ([false, false, false], [(97, .iconst 0, 0, 0, 0, []), (98, .nop, 10, 0, 0, [])])
def mk_b216_10 : List Bool × List mj_I := ([false, false, false], [(98, .ireturn, 0, 0, 0, [])])
def mk_b216_11 : List Bool × List mj_I := ([false, true, true], [(99, .iload_n 1, 1, 0, 0, []), (100, .iload_n 2, 2, 0, 0, []), (101, .if_icmp .ne (7), 12, 0, 0, []), (104, .iconst 1, 0, 0, 0, []), (105, .goto (4), 13, 0, 0, [])])
def mk_b216_12 : List Bool × List mj_I := ([false, false, false], [(108, .iconst 0, 0, 0, 0, []), (109, .nop, 13, 0, 0, [])])
def mk_b216_13 : List Bool × List mj_I := ([false, false, false], [(109, .ireturn, 0, 0, 0, [])])
def mk_b216_14 : List Bool × List mj_I := ([false, true, true], [(110, .iload_n 1, 1, 0, 0, []), (111, .iload_n 2, 2, 0, 0, []), (112, .iadd, 0, 0, 0, []), (113, .ireturn, 0, 0, 0, [])])
def mk_b216_15 : List Bool × List mj_I := ([false, true, true], [(114, .iload_n 1, 1, 0, 0, []), (115, .iload_n 2, 2, 0, 0, []), (116, .isub, 0, 0, 0, []), (117, .ireturn, 0, 0, 0, [])])
def mk_b216_16 : List Bool × List mj_I := ([false, true, true], [(118, .iload_n 1, 1, 0, 0, []), (119, .iload_n 2, 2, 0, 0, []), (120, .imul, 0, 0, 0, []), (121, .ireturn, 0, 0, 0, [])])
def mk_m216 : Nat × List (List Bool × List mj_I) := (3, [mk_b216_0, mk_b216_1, mk_b216_2, mk_b216_3, mk_b216_4, mk_b216_5, mk_b216_6, mk_b216_7, mk_b216_8, mk_b216_9, mk_b216_10, mk_b216_11, mk_b216_12, mk_b216_13, mk_b216_14, mk_b216_15, mk_b216_16])
def mk_CS : List Int := [(-4611686018427387904), 1000000, 99999, 48271, 2147483647, 21, 1000000000, 100, 100000]
def mk_PG : mj_P := [mk_m0, mk_m1, mk_m2, mk_m3, mk_m4, mk_m5, mk_m6, mk_m7, mk_m8, mk_m9, mk_m10, mk_m11, mk_m12, mk_m13, mk_m14, mk_m15, mk_m16, mk_m17, mk_m18, mk_m19, mk_m20, mk_m21, mk_m22, mk_m23, mk_m24, mk_m25, mk_m26, mk_m27, mk_m28, mk_m29, mk_m30, mk_m31, mk_m32, mk_m33, mk_m34, mk_m35, mk_m36, mk_m37, mk_m38, mk_m39, mk_m40, mk_m41, mk_m42, mk_m43, mk_m44, mk_m45, mk_m46, mk_m47, mk_m48, mk_m49, mk_m50, mk_m51, mk_m52, mk_m53, mk_m54, mk_m55, mk_m56, mk_m57, mk_m58, mk_m59, mk_m60, mk_m61, mk_m62, mk_m63, mk_m64, mk_m65, mk_m66, mk_m67, mk_m68, mk_m69, mk_m70, mk_m71, mk_m72, mk_m73, mk_m74, mk_m75, mk_m76, mk_m77, mk_m78, mk_m79, mk_m80, mk_m81, mk_m82, mk_m83, mk_m84, mk_m85, mk_m86, mk_m87, mk_m88, mk_m89, mk_m90, mk_m91, mk_m92, mk_m93, mk_m94, mk_m95, mk_m96, mk_m97, mk_m98, mk_m99, mk_m100, mk_m101, mk_m102, mk_m103, mk_m104, mk_m105, mk_m106, mk_m107, mk_m108, mk_m109, mk_m110, mk_m111, mk_m112, mk_m113, mk_m114, mk_m115, mk_m116, mk_m117, mk_m118, mk_m119, mk_m120, mk_m121, mk_m122, mk_m123, mk_m124, mk_m125, mk_m126, mk_m127, mk_m128, mk_m129, mk_m130, mk_m131, mk_m132, mk_m133, mk_m134, mk_m135, mk_m136, mk_m137, mk_m138, mk_m139, mk_m140, mk_m141, mk_m142, mk_m143, mk_m144, mk_m145, mk_m146, mk_m147, mk_m148, mk_m149, mk_m150, mk_m151, mk_m152, mk_m153, mk_m154, mk_m155, mk_m156, mk_m157, mk_m158, mk_m159, mk_m160, mk_m161, mk_m162, mk_m163, mk_m164, mk_m165, mk_m166, mk_m167, mk_m168, mk_m169, mk_m170, mk_m171, mk_m172, mk_m173, mk_m174, mk_m175, mk_m176, mk_m177, mk_m178, mk_m179, mk_m180, mk_m181, mk_m182, mk_m183, mk_m184, mk_m185, mk_m186, mk_m187, mk_m188, mk_m189, mk_m190, mk_m191, mk_m192, mk_m193, mk_m194, mk_m195, mk_m196, mk_m197, mk_m198, mk_m199, mk_m200, mk_m201, mk_m202, mk_m203, mk_m204, mk_m205, mk_m206, mk_m207, mk_m208, mk_m209, mk_m210, mk_m211, mk_m212, mk_m213, mk_m214, mk_m215, mk_m216]
noncomputable def kd (d y l : Nat) (ls : mj_L) (st : List mj_V) (μ : mj_M) : mj_R := mj_den mk_LY mk_TB mk_CS mk_PG d y l ls st μ
noncomputable def kc (d y : Nat) (as : List mj_V) (μ : mj_M) : mj_R := mj_call mk_LY mk_TB mk_CS mk_PG d y as μ
abbrev v_i (x : Int) : mj_V := .inl x
abbrev v_l (x : Int) : mj_V := .inr (.inl x)
abbrev v_r (s i : Nat) : mj_V := .inr (.inr (s, i))
theorem kd_fix {d y l : Nat} {ls : mj_L} {st : List mj_V} {μ : mj_M} : kd d y l ls st μ = mj_blk mk_LY mk_TB mk_CS (fun l' => kd d y l') (kc d) (mj_bk mk_PG y l).2 (mj_keep (mj_bk mk_PG y l).1 ls) st μ := mj_fix
theorem kc_fix {d y : Nat} {as : List mj_V} {μ : mj_M} : kc (d + 1) y as μ = kd d y 0 (mj_ent mk_PG y as) [] μ := rfl
def mj_mem : List Nat → Nat → Bool
  | [], _ => false
  | a :: l, x => match Nat.beq a x with
    | true => true
    | false => mj_mem l x
noncomputable def kd_u (d y : Nat) (cs : List Nat) : Nat → Nat → mj_L → List mj_V → mj_M → mj_R
  | 0, l, ls, st, μ => kd d y l ls st μ
  | n + 1, l, ls, st, μ => match mj_mem cs l with
    | true => kd d y l ls st μ
    | false => mj_blk mk_LY mk_TB mk_CS (kd_u d y cs n) (kc d) (mj_bk mk_PG y l).2 (mj_keep (mj_bk mk_PG y l).1 ls) st μ
theorem kd_u_eq {d y : Nat} {cs : List Nat} : ∀ n : Nat, kd_u d y cs n = fun l => kd d y l := by
  intro n
  induction n with
  | zero => rfl
  | succ n ih =>
    funext l ls st μ
    unfold kd_u
    split
    · rfl
    · rw [ih]
      exact kd_fix.symm
theorem kd_unf {d y l : Nat} {ls : mj_L} {st : List mj_V} {μ : mj_M} (cs : List Nat) (n : Nat) : kd d y l ls st μ = mj_blk mk_LY mk_TB mk_CS (kd_u d y cs n) (kc d) (mj_bk mk_PG y l).2 (mj_keep (mj_bk mk_PG y l).1 ls) st μ := by
  rw [kd_u_eq]
  exact kd_fix
end
section
/-! printed by wip/whole/eqs.py: what each cut of each method comes to -/
-- 0 NumbersCalled.counter(II)I
set_option maxRecDepth 20000 in
theorem ke0_0 (d : Nat) (p1 : Int) (p2 : Int) (μ : mj_M) : kc (d + 1) 0 [v_r 0 0, v_i p1, v_i p2] μ = mj_rI (kc d 44 [v_i p1, v_i 0, v_i 15] μ) fun x1 m2 => if x1 = 0 then (some (some (v_i (-2)), m2)) else (mj_rI (kc d 44 [v_i p2, v_i 0, v_i 9] m2) fun x3 m4 => if x3 = 0 then (some (some (v_i (-2)), m4)) else (if (m4 1 0 0) < 4 then (if 0 ≤ (m4 1 0 0) ∧ (m4 1 0 0) < 4 then (if 0 ≤ (m4 1 0 0) ∧ (m4 1 0 0) < 4 then (if 0 ≤ (m4 1 0 0) ∧ (m4 1 0 0) < 4 then (some (some (v_i (m4 1 0 0)), mj_up (mj_up (mj_up (mj_up m4 2 0 ((m4 1 0 0).toNat) p1) 3 0 ((m4 1 0 0).toNat) p2) 4 0 ((m4 1 0 0).toNat) (-1)) 1 0 0 (mj_w ((m4 1 0 0) + 1)))) else (none)) else (none)) else (none)) else (some (some (v_i (-4)), m4)))) := (kd_unf [] 40).trans rfl
-- 1 NumbersCalled.change(III)I
set_option maxRecDepth 20000 in
theorem ke1_0 (d : Nat) (p1 : Int) (p2 : Int) (p3 : Int) (μ : mj_M) : kc (d + 1) 1 [v_r 0 0, v_i p1, v_i p2, v_i p3] μ = mj_rI (kc d 49 [v_r 0 0, v_i p1] μ) fun x1 m2 => if x1 = 0 then (some (some (v_i (-5)), m2)) else (mj_rI (kc d 51 [v_i p2, v_i p3] m2) fun x3 m4 => if x3 = 0 then (some (some (v_i (-7)), m4)) else (mj_rI (kc d 52 [v_r 0 0, v_i p1, v_i p2] m4) fun x5 m6 => if p2 = 0 then (if 0 ≤ p1 ∧ p1 < 4 then (some (some (v_i x5), mj_up m6 2 0 p1.toNat p3)) else (none)) else if p2 = 1 then (if 0 ≤ p1 ∧ p1 < 4 then (some (some (v_i x5), mj_up m6 3 0 p1.toNat p3)) else (none)) else (if 0 ≤ p1 ∧ p1 < 4 then (some (some (v_i x5), mj_up m6 4 0 p1.toNat p3)) else (none)))) := (kd_unf [] 40).trans rfl
-- 2 NumbersCalled.counterTold(II)I
set_option maxRecDepth 20000 in
theorem ke2_0 (d : Nat) (p1 : Int) (p2 : Int) (μ : mj_M) : kc (d + 1) 2 [v_r 0 0, v_i p1, v_i p2] μ = mj_rI (kc d 49 [v_r 0 0, v_i p1] μ) fun x1 m2 => if x1 = 0 then (some (some (v_i (-5)), m2)) else (mj_rI (kc d 44 [v_i p2, v_i 0, v_i 2] m2) fun x3 m4 => if x3 = 0 then (some (some (v_i (-7)), m4)) else (mj_rI (kc d 52 [v_r 0 0, v_i p1, v_i p2] m4) fun x5 m6 => some (some (v_i x5), m6))) := (kd_unf [] 40).trans rfl
-- 3 NumbersCalled.set(II)I
set_option maxRecDepth 20000 in
theorem ke3_0 (d : Nat) (p1 : Int) (p2 : Int) (μ : mj_M) : kc (d + 1) 3 [v_r 0 0, v_i p1, v_i p2] μ = mj_rI (kc d 44 [v_i p1, v_i 0, v_i 2] μ) fun x1 m2 => if x1 = 0 then (some (some (v_i (-1)), m2)) else (mj_rI (kc d 53 [v_i p1, v_i p2] m2) fun x3 m4 => if x3 = 0 then (some (some (v_i (-2)), m4)) else (mj_rI (kc d 54 [v_r 0 0, v_i p1] m4) fun x5 m6 => if p1 = 0 then (some (some (v_i x5), mj_up m6 1 0 6 p2)) else if p1 = 1 then (some (some (v_i x5), mj_up m6 1 0 7 p2)) else (some (some (v_i x5), mj_up m6 1 0 8 p2)))) := (kd_unf [] 40).trans rfl
-- 4 NumbersCalled.count(I)I
set_option maxRecDepth 20000 in
theorem ke4_0 (d : Nat) (p1 : Int) (μ : mj_M) : kc (d + 1) 4 [v_r 0 0, v_i p1] μ = if p1 = 0 then (mj_rI (kc d 54 [v_r 0 0, v_i p1] μ) fun x1 m2 => some (some (v_i x1), m2)) else if p1 = 1 then (mj_rI (kc d 54 [v_r 0 0, v_i p1] μ) fun x3 m4 => some (some (v_i x3), m4)) else if p1 = 2 then (mj_rI (kc d 54 [v_r 0 0, v_i p1] μ) fun x5 m6 => some (some (v_i x5), m6)) else if p1 = 3 then (some (some (v_i (μ 1 0 0)), μ)) else if p1 = 4 then (some (some (v_i (μ 1 0 4)), μ)) else if p1 = 5 then (some (some (v_i (μ 0 0 5)), μ)) else if p1 = 6 then (some (some (v_i (μ 1 0 9)), μ)) else if p1 = 7 then (some (some (v_i (μ 14 0 1)), μ)) else (some (some (v_i (-2)), μ)) := (kd_unf [] 40).trans rfl
-- 5 NumbersCalled.feed(IIIIII)I
set_option maxRecDepth 20000 in
theorem ke5_0 (d : Nat) (p1 : Int) (p2 : Int) (p3 : Int) (p4 : Int) (p5 : Int) (p6 : Int) (μ : mj_M) : kc (d + 1) 5 [v_r 0 0, v_i p1, v_i p2, v_i p3, v_i p4, v_i p5, v_i p6] μ = mj_rI (kc d 44 [v_i p1, v_i 1, v_i 5] μ) fun x1 m2 => if x1 = 0 then (some (some (v_i (-2)), m2)) else (mj_rI (kc d 46 [v_i p2] m2) fun x3 m4 => if x3 = 0 then (some (some (v_i (-2)), m4)) else (mj_rI (kc d 46 [v_i p3] m4) fun x5 m6 => if x5 = 0 then (some (some (v_i (-2)), m6)) else (mj_rI (kc d 46 [v_i p4] m6) fun x7 m8 => if x7 = 0 then (some (some (v_i (-2)), m8)) else (mj_rI (kc d 46 [v_i p5] m8) fun x9 m10 => if x9 = 0 then (some (some (v_i (-2)), m10)) else (mj_rI (kc d 46 [v_i p6] m10) fun x11 m12 => if x11 = 0 then (some (some (v_i (-2)), m12)) else (if (mj_w (160 - (m12 14 0 1))) < p1 then (some (some (v_i (-4)), m12)) else (kd d 5 4 [some (v_r 0 0), some (v_i p1), some (v_i p2), some (v_i p3), some (v_i p4), some (v_i p5), some (v_i p6), some (v_i 0)] [] m12))))))) := (kd_unf [4] 40).trans rfl
set_option maxRecDepth 20000 in
theorem ke5_4 (d : Nat) (a1 : Int) (a2 : Int) (a3 : Int) (a4 : Int) (a5 : Int) (a6 : Int) (a7 : Int) (μ : mj_M) : kd d 5 4 [some (v_r 0 0), some (v_i a1), some (v_i a2), some (v_i a3), some (v_i a4), some (v_i a5), some (v_i a6), some (v_i a7)] [] μ = if a7 < a1 then (if a7 = 0 then (mj_rV (kc d 197 [v_r 14 0, v_i a2] μ) fun m1 => kd d 5 4 [some (v_r 0 0), some (v_i a1), some (v_i a2), some (v_i a3), some (v_i a4), some (v_i a5), some (v_i a6), some (v_i (mj_w (a7 + 1)))] [] m1) else if a7 = 1 then (mj_rV (kc d 197 [v_r 14 0, v_i a3] μ) fun m2 => kd d 5 4 [some (v_r 0 0), some (v_i a1), some (v_i a2), some (v_i a3), some (v_i a4), some (v_i a5), some (v_i a6), some (v_i (mj_w (a7 + 1)))] [] m2) else if a7 = 2 then (mj_rV (kc d 197 [v_r 14 0, v_i a4] μ) fun m3 => kd d 5 4 [some (v_r 0 0), some (v_i a1), some (v_i a2), some (v_i a3), some (v_i a4), some (v_i a5), some (v_i a6), some (v_i (mj_w (a7 + 1)))] [] m3) else if a7 = 3 then (mj_rV (kc d 197 [v_r 14 0, v_i a5] μ) fun m4 => kd d 5 4 [some (v_r 0 0), some (v_i a1), some (v_i a2), some (v_i a3), some (v_i a4), some (v_i a5), some (v_i a6), some (v_i (mj_w (a7 + 1)))] [] m4) else (mj_rV (kc d 197 [v_r 14 0, v_i a6] μ) fun m5 => kd d 5 4 [some (v_r 0 0), some (v_i a1), some (v_i a2), some (v_i a3), some (v_i a4), some (v_i a5), some (v_i a6), some (v_i (mj_w (a7 + 1)))] [] m5)) else (some (some (v_i (μ 14 0 1)), μ)) := (kd_unf [4] 40).trans rfl
-- 6 NumbersCalled.text()I
set_option maxRecDepth 20000 in
theorem ke6_0 (d : Nat)  (μ : mj_M) : kc (d + 1) 6 [v_r 0 0] μ = if (μ 0 0 5) < 6 then (mj_rI (kc d 198 [v_r 14 0] μ) fun x1 m2 => if x1 = (-1) then (if 0 ≤ (m2 0 0 5) ∧ (m2 0 0 5) < 6 then (mj_rV (kc d 214 [v_r 9 ((m2 0 0 5).toNat), v_r 14 0] (mj_up m2 14 0 1 0)) fun m3 => some (some (v_i (mj_w ((mj_w ((m3 0 0 5) + 1)) - 1))), mj_up m3 0 0 5 (mj_w ((m3 0 0 5) + 1)))) else (none)) else (some (some (v_i (mj_w ((-100) - x1))), mj_up m2 14 0 1 0))) else (some (some (v_i (-4)), μ)) := (kd_unf [] 40).trans rfl
-- 7 NumbersCalled.force(I)I
set_option maxRecDepth 20000 in
theorem ke7_0 (d : Nat) (p1 : Int) (μ : mj_M) : kc (d + 1) 7 [v_r 0 0, v_i p1] μ = mj_rI (kc d 44 [v_i p1, v_i 0, v_i (mj_w ((μ 0 0 5) - 1))] μ) fun x1 m2 => if x1 = 0 then (some (some (v_i (-2)), m2)) else (some (some (v_i (m2 1 0 9)), mj_up m2 1 0 9 p1)) := (kd_unf [] 40).trans rfl
-- 8 NumbersCalled.pull(III)I
set_option maxRecDepth 20000 in
theorem ke8_0 (d : Nat) (p1 : Int) (p2 : Int) (p3 : Int) (μ : mj_M) : kc (d + 1) 8 [v_r 0 0, v_i p1, v_i p2, v_i p3] μ = mj_rI (kc d 44 [v_i p1, v_i 0, v_i 5] μ) fun x1 m2 => if x1 = 0 then (some (some (v_i (-2)), m2)) else (mj_rI (kc d 44 [v_i p3, v_i 0, v_i 119] m2) fun x3 m4 => if x3 = 0 then (some (some (v_i (-2)), m4)) else (mj_rI (kc d 47 [v_i p2] m4) fun x5 m6 => if x5 = 0 then (some (some (v_i (-2)), m6)) else (if (m6 1 0 4) < 16 then (if 0 ≤ (m6 1 0 4) ∧ (m6 1 0 4) < 16 then (mj_rV (kc d 163 [v_r 7 ((m6 1 0 4).toNat), v_i p1, v_i (mj_w (p2.tdiv 1000)), v_i ((mj_w (p2.tdiv 10)).tmod 100), v_i (p2.tmod 10)] m6) fun m7 => if 0 ≤ (m6 1 0 4) ∧ (m6 1 0 4) < 16 then (some (some (v_i (m6 1 0 4)), mj_up (mj_up m7 5 0 ((m6 1 0 4).toNat) p3) 1 0 4 (mj_w ((m7 1 0 4) + 1)))) else (none)) else (none)) else (some (some (v_i (-4)), m6))))) := (kd_unf [] 40).trans rfl
-- 9 NumbersCalled.move(II)I
set_option maxRecDepth 20000 in
theorem ke9_0 (d : Nat) (p1 : Int) (p2 : Int) (μ : mj_M) : kc (d + 1) 9 [v_r 0 0, v_i p1, v_i p2] μ = mj_rI (kc d 50 [v_r 0 0, v_i p1] μ) fun x1 m2 => if x1 = 0 then (some (some (v_i (-5)), m2)) else (mj_rI (kc d 44 [v_i p2, v_i 0, v_i 119] m2) fun x3 m4 => if x3 = 0 then (some (some (v_i (-7)), m4)) else (if 0 ≤ p1 ∧ p1 < 16 then (if 0 ≤ p1 ∧ p1 < 16 then (some (some (v_i (m4 5 0 p1.toNat)), mj_up m4 5 0 p1.toNat p2)) else (none)) else (none))) := (kd_unf [] 40).trans rfl
-- 10 NumbersCalled.forget()I
set_option maxRecDepth 20000 in
theorem ke10_0 (d : Nat)  (μ : mj_M) : kc (d + 1) 10 [v_r 0 0] μ = if 0 < (μ 1 0 4) then (if (mj_w ((μ 1 0 4) - 1)) < (μ 1 1 4) then (some (some (v_i (mj_w ((μ 1 0 4) - 1))), mj_up (mj_up μ 1 0 4 (mj_w ((μ 1 0 4) - 1))) 0 0 2 0)) else (some (some (v_i (mj_w ((μ 1 0 4) - 1))), mj_up μ 1 0 4 (mj_w ((μ 1 0 4) - 1))))) else (some (some (v_i (-3)), μ)) := (kd_unf [] 40).trans rfl
-- 11 NumbersCalled.told(II)I
set_option maxRecDepth 20000 in
theorem ke11_0 (d : Nat) (p1 : Int) (p2 : Int) (μ : mj_M) : kc (d + 1) 11 [v_r 0 0, v_i p1, v_i p2] μ = mj_rI (kc d 50 [v_r 0 0, v_i p1] μ) fun x1 m2 => if x1 = 0 then (some (some (v_i (-5)), m2)) else (if p2 = 0 then (if 0 ≤ p1 ∧ p1 < 16 then (some (some (v_i (m2 7 p1.toNat 0)), m2)) else (none)) else if p2 = 1 then (if 0 ≤ p1 ∧ p1 < 16 then (some (some (v_i (m2 7 p1.toNat 1)), m2)) else (none)) else if p2 = 2 then (if 0 ≤ p1 ∧ p1 < 16 then (some (some (v_i (m2 7 p1.toNat 2)), m2)) else (none)) else if p2 = 3 then (if 0 ≤ p1 ∧ p1 < 16 then (some (some (v_i (m2 7 p1.toNat 3)), m2)) else (none)) else if p2 = 4 then (if 0 ≤ p1 ∧ p1 < 16 then (some (some (v_i (m2 5 0 p1.toNat)), m2)) else (none)) else if p2 = 5 then (if 0 ≤ p1 ∧ p1 < 16 then (mj_rI (kc d 167 [v_r 7 p1.toNat] m2) fun x3 m4 => some (some (v_i x3), m4)) else (none)) else (some (some (v_i (-7)), m2))) := (kd_unf [] 40).trans rfl
-- 12 NumbersCalled.asks(IIIII)I
set_option maxRecDepth 20000 in
theorem ke12_0 (d : Nat) (p1 : Int) (p2 : Int) (p3 : Int) (p4 : Int) (p5 : Int) (μ : mj_M) : kc (d + 1) 12 [v_r 0 0, v_i p1, v_i p2, v_i p3, v_i p4, v_i p5] μ = mj_rI (kc d 50 [v_r 0 0, v_i p1] μ) fun x1 m2 => if x1 = 0 then (some (some (v_i (-5)), m2)) else (mj_rI (kc d 49 [v_r 0 0, v_i p2] m2) fun x3 m4 => if x3 = 0 then (some (some (v_i (-5)), m4)) else (mj_rI (kc d 44 [v_i p3, v_i 0, v_i 999] m4) fun x5 m6 => if x5 = 0 then (some (some (v_i (-7)), m6)) else (mj_rI (kc d 44 [v_i p4, v_i 0, v_i 999] m6) fun x7 m8 => if x7 = 0 then (some (some (v_i (-7)), m8)) else (if 0 ≤ (m8 1 0 9) ∧ (m8 1 0 9) < 6 then (if p5 = 0 then (if 0 ≤ p1 ∧ p1 < 16 then (if 0 ≤ p1 ∧ p1 < 16 then (if 0 ≤ p2 ∧ p2 < 4 then (mj_rI (kc d 215 [v_r 9 ((m8 1 0 9).toNat), v_i 0, v_r 7 p1.toNat, v_i p3, v_i (m8 3 0 p2.toNat), v_i 0] m8) fun x9 m10 => mj_rI (kc d 169 [v_r 7 p1.toNat, v_i x9, v_i 0] m10) fun x11 m12 => some (some (v_i x11), m12)) else (none)) else (none)) else (none)) else if p5 = 1 then (if 0 ≤ p1 ∧ p1 < 16 then (if 0 ≤ p1 ∧ p1 < 16 then (mj_rI (kc d 215 [v_r 9 ((m8 1 0 9).toNat), v_i 1, v_r 7 p1.toNat, v_i p3, v_i 0, v_i 0] m8) fun x13 m14 => mj_rI (kc d 168 [v_r 7 p1.toNat, v_i p3, v_i x13] m14) fun x15 m16 => if x15 = 0 then (some (some (v_i 0), m16)) else (some (some (v_i 1), m16))) else (none)) else (none)) else if p5 = 2 then (if 0 ≤ p1 ∧ p1 < 16 then (mj_rI (kc d 64 [v_r 0 0, v_r 7 p1.toNat, v_i p3, v_i p4] m8) fun x17 m18 => some (some (v_i x17), m18)) else (none)) else (some (some (v_i (-7)), m8))) else (none))))) := (kd_unf [] 40).trans rfl
-- 13 NumbersCalled.of(II)I
set_option maxRecDepth 20000 in
theorem ke13_0 (d : Nat) (p1 : Int) (p2 : Int) (μ : mj_M) : kc (d + 1) 13 [v_r 0 0, v_i p1, v_i p2] μ = mj_rI (kc d 50 [v_r 0 0, v_i p1] μ) fun x1 m2 => if x1 = 0 then (some (some (v_i (-5)), m2)) else (mj_rI (kc d 44 [v_i p2, v_i 0, v_i 5] m2) fun x3 m4 => if x3 = 0 then (some (some (v_i (-7)), m4)) else (mj_rV (kc d 58 [v_r 0 0] m4) fun m5 => if p2 = 0 then (if 0 ≤ p1 ∧ p1 < 16 then (some (some (v_i (m5 22 0 p1.toNat)), m5)) else (none)) else if p2 = 1 then (if 0 ≤ p1 ∧ p1 < 16 then (some (some (v_i (m5 23 0 p1.toNat)), m5)) else (none)) else if p2 = 2 then (if 0 ≤ p1 ∧ p1 < 16 then (some (some (v_i (m5 24 0 p1.toNat)), m5)) else (none)) else if p2 = 3 then (if 0 ≤ p1 ∧ p1 < 16 then (some (some (v_i (m5 25 0 p1.toNat)), m5)) else (none)) else if p2 = 4 then (mj_rI (kc d 178 [v_r 21 0, v_i p1] m5) fun x6 m7 => some (some (v_i x6), m7)) else (if 0 ≤ p1 ∧ p1 < 16 then (some (some (v_i (m5 26 0 p1.toNat)), m5)) else (none)))) := (kd_unf [] 40).trans rfl
-- 14 NumbersCalled.sum(I)I
set_option maxRecDepth 20000 in
theorem ke14_0 (d : Nat) (p1 : Int) (μ : mj_M) : kc (d + 1) 14 [v_r 0 0, v_i p1] μ = mj_rI (kc d 44 [v_i p1, v_i 0, v_i 7] μ) fun x1 m2 => if x1 = 0 then (some (some (v_i (-2)), m2)) else (mj_rV (kc d 58 [v_r 0 0] m2) fun m3 => mj_rI (kc d 187 [v_r 21 0, v_i p1] m3) fun x4 m5 => some (some (v_i x4), m5)) := (kd_unf [] 40).trans rfl
-- 15 NumbersCalled.idle(I)I
set_option maxRecDepth 20000 in
theorem ke15_0 (d : Nat) (p1 : Int) (μ : mj_M) : kc (d + 1) 15 [v_r 0 0, v_i p1] μ = mj_rI (kc d 49 [v_r 0 0, v_i p1] μ) fun x1 m2 => if x1 = 0 then (some (some (v_i (-5)), m2)) else (mj_rV (kc d 58 [v_r 0 0] m2) fun m3 => if 0 ≤ p1 ∧ p1 < 4 then (some (some (v_i (m3 27 0 p1.toNat)), m3)) else (none)) := (kd_unf [] 40).trans rfl
-- 16 NumbersCalled.harmed()I
set_option maxRecDepth 20000 in
theorem ke16_0 (d : Nat)  (μ : mj_M) : kc (d + 1) 16 [v_r 0 0] μ = mj_rV (kc d 58 [v_r 0 0] μ) fun m1 => mj_rI (kc d 185 [v_r 21 0] m1) fun x2 m3 => some (some (v_i x2), m3) := (kd_unf [] 40).trans rfl
-- 17 NumbersCalled.letter(II)I
set_option maxRecDepth 20000 in
theorem ke17_0 (d : Nat) (p1 : Int) (p2 : Int) (μ : mj_M) : kc (d + 1) 17 [v_r 0 0, v_i p1, v_i p2] μ = mj_rI (kc d 49 [v_r 0 0, v_i p1] μ) fun x1 m2 => if x1 = 0 then (some (some (v_i (-5)), m2)) else (mj_rI (kc d 44 [v_i p2, v_i 0, v_i 1] m2) fun x3 m4 => if x3 = 0 then (some (some (v_i (-7)), m4)) else (mj_rV (kc d 188 [v_r 31 0] m4) fun m5 => mj_rV (kc d 58 [v_r 0 0] m5) fun m6 => mj_rI (kc d 185 [v_r 21 0] m6) fun x7 m8 => mj_rV (kc d 189 [v_r 31 0, v_i (-1), v_i x7] m8) fun m9 => kd d 17 3 [some (v_r 0 0), some (v_i p1), some (v_i p2), some (v_i 0)] [] m9)) := (kd_unf [3] 40).trans rfl
set_option maxRecDepth 20000 in
theorem ke17_3 (d : Nat) (a1 : Int) (a2 : Int) (a3 : Int) (μ : mj_M) : kd d 17 3 [some (v_r 0 0), some (v_i a1), some (v_i a2), some (v_i a3)] [] μ = if a3 < 4 then (if 0 ≤ a1 ∧ a1 < 4 then (if (0 : Int) ≤ a3 ∧ a3 < (32 : Int) then (if (0 : Int) ≤ (μ 2 0 a1.toNat) ∧ (0 : Int) ≤ (mj_w (1 * 2 ^ a3.toNat)) then (if 0 ≤ a1 ∧ a1 < 4 then (mj_rV (kc d 57 [v_r 0 0] (mj_up μ 2 2 a1.toNat (((μ 2 0 a1.toNat).toNat ||| (mj_w (1 * 2 ^ a3.toNat)).toNat : Nat) : Int))) fun m3 => mj_rI (kc d 185 [v_r 21 0] m3) fun x4 m5 => mj_rV (kc d 189 [v_r 31 0, v_i a3, v_i x4] m5) fun m6 => kd d 17 3 [some (v_r 0 0), some (v_i a1), some (v_i a2), some (v_i (mj_w (a3 + 1)))] [] m6) else (none)) else (none)) else (none)) else (none)) else (mj_rI (kc d 190 [v_r 31 0, v_i a2] μ) fun x1 m2 => some (some (v_i x1), m2)) := (kd_unf [3] 40).trans rfl
-- 18 NumbersCalled.train(II)I
set_option maxRecDepth 20000 in
theorem ke18_0 (d : Nat) (p1 : Int) (p2 : Int) (μ : mj_M) : kc (d + 1) 18 [v_r 0 0, v_i p1, v_i p2] μ = mj_rI (kc d 44 [v_i p1, v_i 0, v_i 999] μ) fun x1 m2 => if x1 = 0 then (some (some (v_i (-2)), m2)) else (mj_rI (kc d 44 [v_i p2, v_i 0, v_i 1] m2) fun x3 m4 => if x3 = 0 then (some (some (v_i (-2)), m4)) else (mj_rI (kc d 60 [v_r 0 0, v_i (-1), v_i (-1), v_i p1] m4) fun x5 m6 => if x5 = 0 then (kd d 18 6 [some (v_r 0 0), some (v_i p1), some (v_i p2), some (v_i (mj_w ((m6 1 0 0) * 4))), some (v_i 0), none] [] m6) else (if p2 = 0 then (some (some (v_i 0), m6)) else (some (some (v_i (-1)), m6))))) := (kd_unf [6, 11, 12] 40).trans rfl
set_option maxRecDepth 20000 in
theorem ke18_6 (d : Nat) (a1 : Int) (a2 : Int) (a3 : Int) (a4 : Int) (o5 : Option mj_V) (μ : mj_M) : kd d 18 6 [some (v_r 0 0), some (v_i a1), some (v_i a2), some (v_i a3), some (v_i a4), o5] [] μ = if a4 < a3 then (mj_rI (kc d 60 [v_r 0 0, v_i a4, v_i (-1), v_i a1] μ) fun x1 m2 => if x1 = 0 then (kd d 18 6 [some (v_r 0 0), some (v_i a1), some (v_i a2), some (v_i a3), some (v_i (mj_w (a4 + 1))), none] [] m2) else (if a2 = 0 then (some (some (v_i 1), m2)) else (mj_rI (kc d 61 [v_i a4] m2) fun x3 m4 => some (some (v_i x3), m4)))) else (kd d 18 11 [some (v_r 0 0), some (v_i a1), some (v_i a2), some (v_i a3), some (v_i 0), none] [] μ) := (kd_unf [6, 11, 12] 40).trans rfl
set_option maxRecDepth 20000 in
theorem ke18_11 (d : Nat) (a1 : Int) (a2 : Int) (a3 : Int) (a4 : Int) (o5 : Option mj_V) (μ : mj_M) : kd d 18 11 [some (v_r 0 0), some (v_i a1), some (v_i a2), some (v_i a3), some (v_i a4), o5] [] μ = if a4 < a3 then (kd d 18 12 [some (v_r 0 0), some (v_i a1), some (v_i a2), some (v_i a3), some (v_i a4), some (v_i (mj_w (a4 + 1)))] [] μ) else (some (some (v_i (-1)), μ)) := (kd_unf [6, 11, 12] 40).trans rfl
set_option maxRecDepth 20000 in
theorem ke18_12 (d : Nat) (a1 : Int) (a2 : Int) (a3 : Int) (a4 : Int) (a5 : Int) (μ : mj_M) : kd d 18 12 [some (v_r 0 0), some (v_i a1), some (v_i a2), some (v_i a3), some (v_i a4), some (v_i a5)] [] μ = if a5 < a3 then (mj_rI (kc d 60 [v_r 0 0, v_i a4, v_i a5, v_i a1] μ) fun x1 m2 => if x1 = 0 then (kd d 18 12 [some (v_r 0 0), some (v_i a1), some (v_i a2), some (v_i a3), some (v_i a4), some (v_i (mj_w (a5 + 1)))] [] m2) else (if a2 = 0 then (some (some (v_i 2), m2)) else (mj_rI (kc d 61 [v_i a4] m2) fun x3 m4 => mj_rI (kc d 61 [v_i a5] m4) fun x5 m6 => some (some (v_i (mj_w ((mj_w (x3 * 100)) + x5))), m6)))) else (kd d 18 11 [some (v_r 0 0), some (v_i a1), some (v_i a2), some (v_i a3), some (v_i (mj_w (a4 + 1))), none] [] μ) := (kd_unf [6, 11, 12] 40).trans rfl
-- 19 NumbersCalled.rest(II)I
set_option maxRecDepth 20000 in
theorem ke19_0 (d : Nat) (p1 : Int) (p2 : Int) (μ : mj_M) : kc (d + 1) 19 [v_r 0 0, v_i p1, v_i p2] μ = mj_rI (kc d 49 [v_r 0 0, v_i p1] μ) fun x1 m2 => if x1 = 0 then (some (some (v_i (-5)), m2)) else (mj_rI (kc d 44 [v_i p2, v_i 0, v_i 1] m2) fun x3 m4 => if x3 = 0 then (some (some (v_i (-7)), m4)) else (mj_rV (kc d 188 [v_r 31 0] m4) fun m5 => mj_rV (kc d 56 [v_r 0 0] m5) fun m6 => kd d 19 3 [some (v_r 0 0), some (v_i p1), some (v_i p2), some (v_i 0)] [] m6)) := (kd_unf [3] 40).trans rfl
set_option maxRecDepth 20000 in
theorem ke19_3 (d : Nat) (a1 : Int) (a2 : Int) (a3 : Int) (μ : mj_M) : kd d 19 3 [some (v_r 0 0), some (v_i a1), some (v_i a2), some (v_i a3)] [] μ = if 110 < a3 then (mj_rI (kc d 190 [v_r 31 0, v_i a2] μ) fun x1 m2 => some (some (v_i x1), m2)) else (if 0 ≤ a1 ∧ a1 < 4 then (mj_rV (kc d 57 [v_r 0 0] (mj_up μ 4 2 a1.toNat a3)) fun m3 => mj_rI (kc d 185 [v_r 21 0] m3) fun x4 m5 => mj_rV (kc d 189 [v_r 31 0, v_i a3, v_i x4] m5) fun m6 => kd d 19 3 [some (v_r 0 0), some (v_i a1), some (v_i a2), some (v_i (mj_w (a3 + 10)))] [] m6) else (none)) := (kd_unf [3] 40).trans rfl
-- 20 NumbersCalled.stop(I)I
set_option maxRecDepth 20000 in
theorem ke20_0 (d : Nat) (p1 : Int) (μ : mj_M) : kc (d + 1) 20 [v_r 0 0, v_i p1] μ = mj_rI (kc d 44 [v_i p1, v_i 0, v_i 999] μ) fun x1 m2 => if x1 = 0 then (some (some (v_i (-2)), m2)) else (mj_rV (kc d 56 [v_r 0 0] m2) fun m3 => kd d 20 2 [some (v_r 0 0), some (v_i p1), some (v_i 120)] [] m3) := (kd_unf [2, 3] 40).trans rfl
set_option maxRecDepth 20000 in
theorem ke20_2 (d : Nat) (a1 : Int) (a2 : Int) (μ : mj_M) : kd d 20 2 [some (v_r 0 0), some (v_i a1), some (v_i a2)] [] μ = if a2 < 0 then (some (some (v_i (-1)), μ)) else (if a2 < 120 then (mj_rI (kc d 62 [v_r 0 0, v_i a2] μ) fun x1 m2 => if x1 = 0 then (kd d 20 2 [some (v_r 0 0), some (v_i a1), some (v_i (mj_w (a2 + (-1))))] [] m2) else (kd d 20 3 [some (v_r 0 0), some (v_i a1), some (v_i a2)] [] m2)) else (kd d 20 3 [some (v_r 0 0), some (v_i a1), some (v_i a2)] [] μ)) := (kd_unf [2, 3] 40).trans rfl
set_option maxRecDepth 20000 in
theorem ke20_3 (d : Nat) (a1 : Int) (a2 : Int) (μ : mj_M) : kd d 20 3 [some (v_r 0 0), some (v_i a1), some (v_i a2)] [] μ = mj_rV (kc d 57 [v_r 0 0] (mj_up μ 1 2 8 a2)) fun m1 => mj_rI (kc d 186 [v_r 21 0, v_i a1] m1) fun x2 m3 => if x2 = 0 then (kd d 20 2 [some (v_r 0 0), some (v_i a1), some (v_i (mj_w (a2 + (-1))))] [] m3) else (some (some (v_i a2), m3)) := (kd_unf [2, 3] 40).trans rfl
-- 21 NumbersCalled.call(I)I
set_option maxRecDepth 20000 in
theorem ke21_0 (d : Nat) (p1 : Int) (μ : mj_M) : kc (d + 1) 21 [v_r 0 0, v_i p1] μ = mj_rI (kc d 44 [v_i p1, v_i 0, v_i 1] μ) fun x1 m2 => if x1 = 0 then (some (some (v_i (-2)), m2)) else (mj_rV (kc d 188 [v_r 31 0] m2) fun m3 => mj_rV (kc d 56 [v_r 0 0] m3) fun m4 => kd d 21 2 [some (v_r 0 0), some (v_i p1), some (v_i 1)] [] m4) := (kd_unf [2] 40).trans rfl
set_option maxRecDepth 20000 in
theorem ke21_2 (d : Nat) (a1 : Int) (a2 : Int) (μ : mj_M) : kd d 21 2 [some (v_r 0 0), some (v_i a1), some (v_i a2)] [] μ = if 9 < a2 then (mj_rI (kc d 190 [v_r 31 0, v_i a1] μ) fun x1 m2 => some (some (v_i x1), m2)) else (mj_rV (kc d 57 [v_r 0 0] (mj_up μ 1 2 7 a2)) fun m3 => mj_rI (kc d 185 [v_r 21 0] m3) fun x4 m5 => mj_rV (kc d 189 [v_r 31 0, v_i a2, v_i x4] m5) fun m6 => kd d 21 2 [some (v_r 0 0), some (v_i a1), some (v_i (mj_w (a2 + 1)))] [] m6) := (kd_unf [2] 40).trans rfl
-- 22 NumbersCalled.pay(I)I
set_option maxRecDepth 20000 in
theorem ke22_0 (d : Nat) (p1 : Int) (μ : mj_M) : kc (d + 1) 22 [v_r 0 0, v_i p1] μ = mj_rI (kc d 44 [v_i p1, v_i 1, v_i 3] μ) fun x1 m2 => if x1 = 0 then (some (some (v_i (-2)), m2)) else (mj_rV (kc d 56 [v_r 0 0] m2) fun m3 => mj_rV (kc d 57 [v_r 0 0] (mj_up m3 1 2 6 p1)) fun m4 => mj_rI (kc d 63 [v_r 0 0, v_i p1] m4) fun x5 m6 => mj_rV (kc d 57 [v_r 0 0] (mj_up m6 1 2 6 0)) fun m7 => mj_rI (kc d 63 [v_r 0 0, v_i p1] m7) fun x8 m9 => some (some (v_i (mj_w (x5 - x8))), m9)) := (kd_unf [] 40).trans rfl
-- 23 NumbersCalled.door(I)I
set_option maxRecDepth 20000 in
theorem ke23_0 (d : Nat) (p1 : Int) (μ : mj_M) : kc (d + 1) 23 [v_r 0 0, v_i p1] μ = mj_rI (kc d 44 [v_i p1, v_i 0, v_i 1] μ) fun x1 m2 => if x1 = 0 then (some (some (v_i (-2)), m2)) else (mj_rV (kc d 58 [v_r 0 0] m2) fun m3 => mj_rI (kc d 185 [v_r 21 0] m3) fun x4 m5 => if p1 = 0 then (kd d 23 3 [some (v_r 0 0), some (v_i p1), some (v_i x4)] [v_i 1, v_r 1 2] m5) else (kd d 23 3 [some (v_r 0 0), some (v_i p1), some (v_i x4)] [v_i 0, v_r 1 2] m5)) := (kd_unf [3] 40).trans rfl
set_option maxRecDepth 20000 in
theorem ke23_3 (d : Nat) (a1 : Int) (a2 : Int) (s0 : Int) (t1 : Nat) (μ : mj_M) : kd d 23 3 [some (v_r 0 0), some (v_i a1), some (v_i a2)] [v_i s0, v_r 1 t1] μ = if s0 = 0 ∨ s0 = 1 then (if a1 = 1 then (mj_rV (kc d 57 [v_r 0 0] (mj_up (mj_up μ 1 t1 10 s0) 1 2 11 1)) fun m4 => mj_rI (kc d 185 [v_r 21 0] m4) fun x5 m6 => some (some (v_i (mj_w (a2 - x5))), m6)) else (mj_rV (kc d 57 [v_r 0 0] (mj_up (mj_up μ 1 t1 10 s0) 1 2 11 0)) fun m1 => mj_rI (kc d 185 [v_r 21 0] m1) fun x2 m3 => some (some (v_i (mj_w (a2 - x2))), m3))) else (none) := (kd_unf [3] 40).trans rfl
-- 24 NumbersCalled.say(I)I
set_option maxRecDepth 20000 in
theorem ke24_0 (d : Nat) (p1 : Int) (μ : mj_M) : kc (d + 1) 24 [v_r 0 0, v_i p1] μ = mj_rI (kc d 44 [v_i p1, v_i 0, v_i 1] μ) fun x1 m2 => if x1 = 0 then (some (some (v_i (-2)), m2)) else (mj_rV (kc d 188 [v_r 31 0] m2) fun m3 => mj_rV (kc d 58 [v_r 0 0] m3) fun m4 => kd d 24 2 [some (v_r 0 0), some (v_i p1), some (v_i 0), none, none] [] m4) := (kd_unf [2, 3] 40).trans rfl
set_option maxRecDepth 20000 in
theorem ke24_2 (d : Nat) (a1 : Int) (a2 : Int) (o3 : Option mj_V) (o4 : Option mj_V) (μ : mj_M) : kd d 24 2 [some (v_r 0 0), some (v_i a1), some (v_i a2), o3, o4] [] μ = if 60 < a2 then (mj_rI (kc d 190 [v_r 31 0, v_i a1] μ) fun x1 m2 => some (some (v_i x1), m2)) else (kd d 24 3 [some (v_r 0 0), some (v_i a1), some (v_i a2), some (v_i 0), some (v_i 0)] [] μ) := (kd_unf [2, 3] 40).trans rfl
set_option maxRecDepth 20000 in
theorem ke24_3 (d : Nat) (a1 : Int) (a2 : Int) (a3 : Int) (a4 : Int) (μ : mj_M) : kd d 24 3 [some (v_r 0 0), some (v_i a1), some (v_i a2), some (v_i a3), some (v_i a4)] [] μ = if a4 < (μ 1 0 4) then (if 0 ≤ a4 ∧ a4 < 16 then (if (μ 22 0 a4.toNat) = 2 then (if 0 ≤ a4 ∧ a4 < 16 then (mj_rI (kc d 178 [v_r 21 0, v_i a4] μ) fun x2 m3 => mj_rI (kc d 64 [v_r 0 0, v_r 7 a4.toNat, v_i x2, v_i a2] m3) fun x4 m5 => kd d 24 3 [some (v_r 0 0), some (v_i a1), some (v_i a2), some (v_i (mj_w (a3 + x4))), some (v_i (mj_w (a4 + 1)))] [] m5) else (none)) else (kd d 24 3 [some (v_r 0 0), some (v_i a1), some (v_i a2), some (v_i a3), some (v_i (mj_w (a4 + 1)))] [] μ)) else (none)) else (mj_rV (kc d 189 [v_r 31 0, v_i a2, v_i a3] μ) fun m1 => kd d 24 2 [some (v_r 0 0), some (v_i a1), some (v_i (mj_w (a2 + 5))), some (v_i a3), none] [] m1) := (kd_unf [2, 3] 40).trans rfl
-- 25 NumbersCalled.best(II)I
set_option maxRecDepth 20000 in
theorem ke25_0 (d : Nat) (p1 : Int) (p2 : Int) (μ : mj_M) : kc (d + 1) 25 [v_r 0 0, v_i p1, v_i p2] μ = mj_rI (kc d 50 [v_r 0 0, v_i p1] μ) fun x1 m2 => if x1 = 0 then (some (some (v_i (-5)), m2)) else (mj_rI (kc d 44 [v_i p2, v_i 0, v_i 1] m2) fun x3 m4 => if x3 = 0 then (some (some (v_i (-7)), m4)) else (mj_rV (kc d 56 [v_r 0 0] m4) fun m5 => mj_rV (kc d 65 [v_r 0 0, v_i p1] m5) fun m6 => mj_rI (kc d 190 [v_r 31 0, v_i p2] m6) fun x7 m8 => some (some (v_i x7), m8))) := (kd_unf [] 40).trans rfl
-- 26 NumbersCalled.uneasy()I
set_option maxRecDepth 20000 in
theorem ke26_0 (d : Nat)  (μ : mj_M) : kc (d + 1) 26 [v_r 0 0] μ = kd d 26 1 [some (v_r 0 0), some (v_i 0), some (v_i 0)] [] μ := (kd_unf [1] 40).trans rfl
set_option maxRecDepth 20000 in
theorem ke26_1 (d : Nat) (a1 : Int) (a2 : Int) (μ : mj_M) : kd d 26 1 [some (v_r 0 0), some (v_i a1), some (v_i a2)] [] μ = if a2 < (μ 1 0 4) then (mj_rI (kc d 66 [v_r 0 0, v_i a2] μ) fun x1 m2 => if x1 = 0 then (kd d 26 1 [some (v_r 0 0), some (v_i a1), some (v_i (mj_w (a2 + 1)))] [] m2) else (if (0 : Int) ≤ a2 ∧ a2 < (32 : Int) then (if (0 : Int) ≤ a1 ∧ (0 : Int) ≤ (mj_w (1 * 2 ^ a2.toNat)) then (kd d 26 1 [some (v_r 0 0), some (v_i ((a1.toNat ||| (mj_w (1 * 2 ^ a2.toNat)).toNat : Nat) : Int)), some (v_i (mj_w (a2 + 1)))] [] m2) else (none)) else (none))) else (some (some (v_i a1), μ)) := (kd_unf [1] 40).trans rfl
-- 27 NumbersCalled.rests(I)I
set_option maxRecDepth 20000 in
theorem ke27_0 (d : Nat) (p1 : Int) (μ : mj_M) : kc (d + 1) 27 [v_r 0 0, v_i p1] μ = mj_rI (kc d 44 [v_i p1, v_i 0, v_i 5] μ) fun x1 m2 => if x1 = 0 then (some (some (v_i (-2)), m2)) else (kd d 27 2 [some (v_r 0 0), some (v_i p1), some (v_i 0), some (v_i 0), none, none] [] m2) := (kd_unf [2, 3] 40).trans rfl
set_option maxRecDepth 20000 in
theorem ke27_2 (d : Nat) (a1 : Int) (a2 : Int) (a3 : Int) (o4 : Option mj_V) (o5 : Option mj_V) (μ : mj_M) : kd d 27 2 [some (v_r 0 0), some (v_i a1), some (v_i a2), some (v_i a3), o4, o5] [] μ = if a3 < a1 then (kd d 27 3 [some (v_r 0 0), some (v_i a1), some (v_i a2), some (v_i a3), some (v_i a2), some (v_i 0)] [] μ) else (some (some (v_i a2), μ)) := (kd_unf [2, 3] 40).trans rfl
set_option maxRecDepth 20000 in
theorem ke27_3 (d : Nat) (a1 : Int) (a2 : Int) (a3 : Int) (a4 : Int) (a5 : Int) (μ : mj_M) : kd d 27 3 [some (v_r 0 0), some (v_i a1), some (v_i a2), some (v_i a3), some (v_i a4), some (v_i a5)] [] μ = if a5 < (μ 1 0 4) then (mj_rI (kc d 66 [v_r 0 0, v_i a5] μ) fun x1 m2 => if x1 = 0 then (kd d 27 3 [some (v_r 0 0), some (v_i a1), some (v_i a2), some (v_i a3), some (v_i a4), some (v_i (mj_w (a5 + 1)))] [] m2) else (if 0 ≤ a5 ∧ a5 < 16 then (kd d 27 3 [some (v_r 0 0), some (v_i a1), some (v_i (mj_w (a2 + 1))), some (v_i a3), some (v_i a4), some (v_i (mj_w (a5 + 1)))] [] (mj_up m2 5 0 a5.toNat (m2 31 0 0))) else (none))) else (if a2 = a4 then (some (some (v_i a2), μ)) else (kd d 27 2 [some (v_r 0 0), some (v_i a1), some (v_i a2), some (v_i (mj_w (a3 + 1))), none, none] [] μ)) := (kd_unf [2, 3] 40).trans rfl
-- 28 NumbersCalled.when(III)I
set_option maxRecDepth 20000 in
theorem ke28_0 (d : Nat) (p1 : Int) (p2 : Int) (p3 : Int) (μ : mj_M) : kc (d + 1) 28 [v_r 0 0, v_i p1, v_i p2, v_i p3] μ = mj_rI (kc d 44 [v_i p1, v_i 0, v_i 3] μ) fun x1 m2 => if x1 = 0 then (some (some (v_i (-2)), m2)) else (mj_rI (kc d 44 [v_i p2, v_i 1, v_i 99] m2) fun x3 m4 => if x3 = 0 then (some (some (v_i (-2)), m4)) else (mj_rI (kc d 44 [v_i p3, v_i 0, v_i 1] m4) fun x5 m6 => if x5 = 0 then (some (some (v_i (-2)), m6)) else (if (m6 1 0 4) < 16 then (if 0 ≤ (m6 1 0 4) ∧ (m6 1 0 4) < 16 then (mj_rV (kc d 163 [v_r 7 ((m6 1 0 4).toNat), v_i 0, v_i p1, v_i p2, v_i 9] m6) fun m7 => mj_rV (kc d 56 [v_r 0 0] m7) fun m8 => mj_rV (kc d 65 [v_r 0 0, v_i (m6 1 0 4)] (mj_up m8 1 2 4 (mj_w ((m8 1 2 4) + 1)))) fun m9 => mj_rI (kc d 190 [v_r 31 0, v_i p3] m9) fun x10 m11 => some (some (v_i x10), m11)) else (none)) else (some (some (v_i (-3)), m6))))) := (kd_unf [] 40).trans rfl
-- 29 NumbersCalled.over(III)J
set_option maxRecDepth 20000 in
theorem ke29_0 (d : Nat) (p1 : Int) (p2 : Int) (p3 : Int) (μ : mj_M) : kc (d + 1) 29 [v_r 0 0, v_i p1, v_i p2, v_i p3] μ = mj_rI (kc d 44 [v_i p1, v_i 0, v_i 40] μ) fun x1 m2 => if x1 = 0 then (some (some (v_l (-4611686018427387904)), m2)) else (mj_rI (kc d 44 [v_i p2, v_i 0, v_i 100] m2) fun x3 m4 => if x3 = 0 then (some (some (v_l (-4611686018427387904)), m4)) else (mj_rI (kc d 44 [v_i p3, v_i 0, v_i 40] m4) fun x5 m6 => if x5 = 0 then (some (some (v_l (-4611686018427387904)), m6)) else (mj_rV (kc d 68 [v_r 0 0] m6) fun m7 => kd d 29 3 [some (v_r 0 0), some (v_i p1), some (v_i p2), some (v_i p3), some (v_i 1)] [] m7))) := (kd_unf [3] 40).trans rfl
set_option maxRecDepth 20000 in
theorem ke29_3 (d : Nat) (a1 : Int) (a2 : Int) (a3 : Int) (a4 : Int) (μ : mj_M) : kd d 29 3 [some (v_r 0 0), some (v_i a1), some (v_i a2), some (v_i a3), some (v_i a4)] [] μ = if a1 < a4 then (mj_rL (kc d 70 [v_r 0 0, v_i a3] μ) fun x1 m2 => some (some (v_l x1), m2)) else (mj_rV (kc d 69 [v_r 0 0, v_i a4, v_i a2] μ) fun m3 => kd d 29 3 [some (v_r 0 0), some (v_i a1), some (v_i a2), some (v_i a3), some (v_i (mj_w (a4 + 1)))] [] m3) := (kd_unf [3] 40).trans rfl
-- 30 NumbersCalled.give(III)I
set_option maxRecDepth 20000 in
theorem ke30_0 (d : Nat) (p1 : Int) (p2 : Int) (p3 : Int) (μ : mj_M) : kc (d + 1) 30 [v_r 0 0, v_i p1, v_i p2, v_i p3] μ = mj_rI (kc d 44 [v_i p1, v_i 0, v_i 100] μ) fun x1 m2 => if x1 = 0 then (some (some (v_i (-2)), m2)) else (mj_rI (kc d 44 [v_i p2, v_i 0, v_i 40] m2) fun x3 m4 => if x3 = 0 then (some (some (v_i (-2)), m4)) else (mj_rI (kc d 44 [v_i p3, v_i 0, v_i 1000] m4) fun x5 m6 => if x5 = 0 then (some (some (v_i (-2)), m6)) else (mj_rV (kc d 68 [v_r 0 0] m6) fun m7 => kd d 30 3 [some (v_r 0 0), some (v_i p1), some (v_i p2), some (v_i p3), some (v_i 0), some (v_i 1)] [] m7))) := (kd_unf [3] 40).trans rfl
set_option maxRecDepth 20000 in
theorem ke30_3 (d : Nat) (a1 : Int) (a2 : Int) (a3 : Int) (a4 : Int) (a5 : Int) (μ : mj_M) : kd d 30 3 [some (v_r 0 0), some (v_i a1), some (v_i a2), some (v_i a3), some (v_i a4), some (v_i a5)] [] μ = if 40 < a5 then (some (some (v_i a4), μ)) else (mj_rV (kc d 69 [v_r 0 0, v_i a5, v_i a1] μ) fun m1 => mj_rL (kc d 70 [v_r 0 0, v_i a2] m1) fun x2 m3 => if x2 < (mj_x (a3 * 1000000)) then (kd d 30 3 [some (v_r 0 0), some (v_i a1), some (v_i a2), some (v_i a3), some (v_i a5), some (v_i (mj_w (a5 + 1)))] [] m3) else if x2 = (mj_x (a3 * 1000000)) then (kd d 30 3 [some (v_r 0 0), some (v_i a1), some (v_i a2), some (v_i a3), some (v_i a5), some (v_i (mj_w (a5 + 1)))] [] m3) else (kd d 30 3 [some (v_r 0 0), some (v_i a1), some (v_i a2), some (v_i a3), some (v_i a4), some (v_i (mj_w (a5 + 1)))] [] m3)) := (kd_unf [3] 40).trans rfl
-- 31 NumbersCalled.judge(I)I
set_option maxRecDepth 20000 in
theorem ke31_0 (d : Nat) (p1 : Int) (μ : mj_M) : kc (d + 1) 31 [v_r 0 0, v_i p1] μ = mj_rI (kc d 55 [v_r 0 0, v_i p1] μ) fun x1 m2 => if x1 = 0 then (mj_rV (kc d 58 [v_r 0 0] m2) fun m3 => if 0 ≤ p1 ∧ p1 < 4 then (mj_rI (kc d 67 [v_r 0 0, v_r 19 p1.toNat] m3) fun x4 m5 => some (some (v_i x4), m5)) else (none)) else (some (some (v_i x1), m2)) := (kd_unf [] 40).trans rfl
-- 32 NumbersCalled.laws(I)I
set_option maxRecDepth 20000 in
theorem ke32_0 (d : Nat) (p1 : Int) (μ : mj_M) : kc (d + 1) 32 [v_r 0 0, v_i p1] μ = mj_rI (kc d 55 [v_r 0 0, v_i p1] μ) fun x1 m2 => if x1 = 0 then (mj_rV (kc d 56 [v_r 0 0] m2) fun m3 => kd d 32 2 [some (v_r 0 0), some (v_i p1), none, some (v_i 0), some (v_i 0)] [] m3) else (some (some (v_i x1), m2)) := (kd_unf [2] 40).trans rfl
set_option maxRecDepth 20000 in
theorem ke32_2 (d : Nat) (a1 : Int) (o2 : Option mj_V) (a3 : Int) (a4 : Int) (μ : mj_M) : kd d 32 2 [some (v_r 0 0), some (v_i a1), o2, some (v_i a3), some (v_i a4)] [] μ = if a4 < (μ 0 0 5) then (mj_rV (kc d 57 [v_r 0 0] (mj_up μ 1 2 9 a4)) fun m1 => if 0 ≤ a1 ∧ a1 < 4 then (mj_rI (kc d 67 [v_r 0 0, v_r 19 a1.toNat] m1) fun x2 m3 => if x2 = (-1) then (if (0 : Int) ≤ a4 ∧ a4 < (32 : Int) then (if (0 : Int) ≤ a3 ∧ (0 : Int) ≤ (mj_w (1 * 2 ^ a4.toNat)) then (kd d 32 2 [some (v_r 0 0), some (v_i a1), none, some (v_i ((a3.toNat ||| (mj_w (1 * 2 ^ a4.toNat)).toNat : Nat) : Int)), some (v_i (mj_w (a4 + 1)))] [] m3) else (none)) else (none)) else (kd d 32 2 [some (v_r 0 0), some (v_i a1), none, some (v_i a3), some (v_i (mj_w (a4 + 1)))] [] m3)) else (none)) else (some (some (v_i a3), μ)) := (kd_unf [2] 40).trans rfl
-- 33 NumbersCalled.which(I)I
set_option maxRecDepth 20000 in
theorem ke33_0 (d : Nat) (p1 : Int) (μ : mj_M) : kc (d + 1) 33 [v_r 0 0, v_i p1] μ = mj_rI (kc d 55 [v_r 0 0, v_i p1] μ) fun x1 m2 => if x1 = 0 then (mj_rV (kc d 56 [v_r 0 0] m2) fun m3 => kd d 33 2 [some (v_r 0 0), some (v_i p1), none, some (v_i 0), some (v_i 0)] [] m3) else (some (some (v_i x1), m2)) := (kd_unf [2] 40).trans rfl
set_option maxRecDepth 20000 in
theorem ke33_2 (d : Nat) (a1 : Int) (o2 : Option mj_V) (a3 : Int) (a4 : Int) (μ : mj_M) : kd d 33 2 [some (v_r 0 0), some (v_i a1), o2, some (v_i a3), some (v_i a4)] [] μ = if a4 < 4 then (mj_rV (kc d 57 [v_r 0 0] (mj_up μ 1 2 6 a4)) fun m1 => if 0 ≤ a1 ∧ a1 < 4 then (mj_rI (kc d 67 [v_r 0 0, v_r 19 a1.toNat] m1) fun x2 m3 => if x2 = (-1) then (if (0 : Int) ≤ a4 ∧ a4 < (32 : Int) then (if (0 : Int) ≤ a3 ∧ (0 : Int) ≤ (mj_w (1 * 2 ^ a4.toNat)) then (kd d 33 2 [some (v_r 0 0), some (v_i a1), none, some (v_i ((a3.toNat ||| (mj_w (1 * 2 ^ a4.toNat)).toNat : Nat) : Int)), some (v_i (mj_w (a4 + 1)))] [] m3) else (none)) else (none)) else (kd d 33 2 [some (v_r 0 0), some (v_i a1), none, some (v_i a3), some (v_i (mj_w (a4 + 1)))] [] m3)) else (none)) else (some (some (v_i a3), μ)) := (kd_unf [2] 40).trans rfl
-- 34 NumbersCalled.film(I)I
set_option maxRecDepth 20000 in
theorem ke34_0 (d : Nat) (p1 : Int) (μ : mj_M) : kc (d + 1) 34 [v_r 0 0, v_i p1] μ = mj_rI (kc d 48 [v_i p1] μ) fun x1 m2 => if x1 = 0 then (some (some (v_i (-2)), m2)) else (mj_rV (kc d 58 [v_r 0 0] m2) fun m3 => if 0 ≤ p1 ∧ p1 < 4 then (mj_rV (kc d 195 [v_r 19 p1.toNat, v_i 2, v_i (m3 1 0 4)] m3) fun m4 => kd d 34 2 [some (v_r 0 0), some (v_i p1), some (v_i 0)] [] m4) else (none)) := (kd_unf [2] 40).trans rfl
set_option maxRecDepth 20000 in
theorem ke34_2 (d : Nat) (a1 : Int) (a2 : Int) (μ : mj_M) : kd d 34 2 [some (v_r 0 0), some (v_i a1), some (v_i a2)] [] μ = if a2 < (μ 1 0 4) then (if 0 ≤ a1 ∧ a1 < 4 then (if 0 ≤ a2 ∧ a2 < 16 then (mj_rV (kc d 196 [v_r 19 a1.toNat, v_i a2, v_i (μ 24 0 a2.toNat)] μ) fun m1 => kd d 34 2 [some (v_r 0 0), some (v_i a1), some (v_i (mj_w (a2 + 1)))] [] m1) else (none)) else (none)) else (some (some (v_i (μ 1 0 4)), μ)) := (kd_unf [2] 40).trans rfl
-- 35 NumbersCalled.drawn(II)I
set_option maxRecDepth 20000 in
theorem ke35_0 (d : Nat) (p1 : Int) (p2 : Int) (μ : mj_M) : kc (d + 1) 35 [v_r 0 0, v_i p1, v_i p2] μ = mj_rI (kc d 44 [v_i p1, v_i 0, v_i 99999] μ) fun x1 m2 => if x1 = 0 then (some (some (v_i (-2)), m2)) else (mj_rI (kc d 44 [v_i p2, v_i 0, v_i 7] m2) fun x3 m4 => if x3 = 0 then (some (some (v_i (-2)), m4)) else (mj_rV (kc d 59 [v_r 0 0, v_i p1] m4) fun m5 => mj_rV (kc d 57 [v_r 0 0] m5) fun m6 => mj_rI (kc d 187 [v_r 21 0, v_i p2] m6) fun x7 m8 => some (some (v_i x7), m8))) := (kd_unf [] 40).trans rfl
-- 36 NumbersCalled.odds(IIII)J
set_option maxRecDepth 20000 in
theorem ke36_0 (d : Nat) (p1 : Int) (p2 : Int) (p3 : Int) (p4 : Int) (μ : mj_M) : kc (d + 1) 36 [v_r 0 0, v_i p1, v_i p2, v_i p3, v_i p4] μ = mj_rI (kc d 44 [v_i p1, v_i 0, v_i 99999] μ) fun x1 m2 => if x1 = 0 then (some (some (v_l (-4611686018427387904)), m2)) else (mj_rI (kc d 44 [v_i p2, v_i 1, v_i 20] m2) fun x3 m4 => if x3 = 0 then (some (some (v_l (-4611686018427387904)), m4)) else (mj_rI (kc d 44 [v_i p3, v_i 0, v_i 999] m4) fun x5 m6 => if x5 = 0 then (some (some (v_l (-4611686018427387904)), m6)) else (mj_rI (kc d 44 [v_i p4, v_i 0, v_i 1] m6) fun x7 m8 => if x7 = 0 then (some (some (v_l (-4611686018427387904)), m8)) else (kd d 36 3 [some (v_r 0 0), some (v_i p1), some (v_i p2), some (v_i p3), some (v_i p4), some (v_i 0), some (v_i 0)] [] m8)))) := (kd_unf [3] 40).trans rfl
set_option maxRecDepth 20000 in
theorem ke36_3 (d : Nat) (a1 : Int) (a2 : Int) (a3 : Int) (a4 : Int) (a5 : Int) (a6 : Int) (μ : mj_M) : kd d 36 3 [some (v_r 0 0), some (v_i a1), some (v_i a2), some (v_i a3), some (v_i a4), some (v_i a5), some (v_i a6)] [] μ = if a6 < a2 then (mj_rV (kc d 59 [v_r 0 0, v_i (mj_w (a1 + a6))] μ) fun m3 => mj_rV (kc d 57 [v_r 0 0] m3) fun m4 => mj_rI (kc d 186 [v_r 21 0, v_i a3] m4) fun x5 m6 => if x5 = 0 then (kd d 36 3 [some (v_r 0 0), some (v_i a1), some (v_i a2), some (v_i a3), some (v_i a4), some (v_i a5), some (v_i (mj_w (a6 + 1)))] [] m6) else (kd d 36 3 [some (v_r 0 0), some (v_i a1), some (v_i a2), some (v_i a3), some (v_i a4), some (v_i (mj_w (a5 + 1))), some (v_i (mj_w (a6 + 1)))] [] m6)) else (mj_rI (kc d 71 [v_i a5, v_i a2] μ) fun x1 m2 => if a4 = 0 then (if x1 = 0 then (none) else (some (some (v_l (mj_w (a5.tdiv x1))), m2))) else (if x1 = 0 then (none) else (some (some (v_l (mj_w (a2.tdiv x1))), m2)))) := (kd_unf [3] 40).trans rfl
-- 37 NumbersCalled.image()I
set_option maxRecDepth 20000 in
theorem ke37_0 (d : Nat)  (μ : mj_M) : kc (d + 1) 37 [v_r 0 0] μ = mj_rV (kc d 191 [v_r 1 1, v_r 1 0] μ) fun m1 => some (some (v_i (m1 1 0 4)), mj_up m1 0 0 2 1) := (kd_unf [] 40).trans rfl
-- 38 NumbersCalled.back()I
set_option maxRecDepth 20000 in
theorem ke38_0 (d : Nat)  (μ : mj_M) : kc (d + 1) 38 [v_r 0 0] μ = if (μ 0 0 2) = 0 then (some (some (v_i (-3)), μ)) else (mj_rV (kc d 191 [v_r 1 0, v_r 1 1] μ) fun m1 => some (some (v_i (m1 1 0 4)), m1)) := (kd_unf [] 40).trans rfl
-- 39 NumbersCalled.sheet(III)I
set_option maxRecDepth 20000 in
theorem ke39_0 (d : Nat) (p1 : Int) (p2 : Int) (p3 : Int) (μ : mj_M) : kc (d + 1) 39 [v_r 0 0, v_i p1, v_i p2, v_i p3] μ = mj_rI (kc d 48 [v_i p1] μ) fun x1 m2 => if x1 = 0 then (some (some (v_i (-2)), m2)) else (mj_rI (kc d 44 [v_i p2, v_i (-1), v_i 2] m2) fun x3 m4 => if x3 = 0 then (some (some (v_i (-2)), m4)) else (if p2 = (-1) then (if 0 ≤ p1 ∧ p1 < 4 then (mj_rV (kc d 195 [v_r 19 p1.toNat, v_i (-1), v_i 0] m4) fun m6 => some (some (v_i 1), m6)) else (none)) else (if 40 < p3 then (some (some (v_i (-2)), m4)) else (if p3 < 0 then (some (some (v_i (-14)), m4)) else (if 0 ≤ p1 ∧ p1 < 4 then (mj_rV (kc d 195 [v_r 19 p1.toNat, v_i p2, v_i p3] m4) fun m5 => some (some (v_i 1), m5)) else (none)))))) := (kd_unf [] 40).trans rfl
-- 40 NumbersCalled.cell(III)I
set_option maxRecDepth 20000 in
theorem ke40_0 (d : Nat) (p1 : Int) (p2 : Int) (p3 : Int) (μ : mj_M) : kc (d + 1) 40 [v_r 0 0, v_i p1, v_i p2, v_i p3] μ = mj_rI (kc d 48 [v_i p1] μ) fun x1 m2 => if x1 = 0 then (some (some (v_i (-2)), m2)) else (if 0 ≤ p1 ∧ p1 < 4 then (mj_rI (kc d 194 [v_r 19 p1.toNat] m2) fun x3 m4 => if x3 = 0 then (if 0 ≤ p1 ∧ p1 < 4 then (mj_rI (kc d 44 [v_i p2, v_i 0, v_i (mj_w ((m4 19 p1.toNat 1) - 1))] m4) fun x5 m6 => if x5 = 0 then (some (some (v_i (-12)), m6)) else (if 0 ≤ p1 ∧ p1 < 4 then (mj_rV (kc d 196 [v_r 19 p1.toNat, v_i p2, v_i p3] m6) fun m7 => some (some (v_i 1), m7)) else (none))) else (none)) else (some (some (v_i (-11)), m4))) else (none)) := (kd_unf [] 40).trans rfl
-- 41 NumbersCalled.copy(IIIII)I
set_option maxRecDepth 20000 in
theorem ke41_0 (d : Nat) (p1 : Int) (p2 : Int) (p3 : Int) (p4 : Int) (p5 : Int) (μ : mj_M) : kc (d + 1) 41 [v_r 0 0, v_i p1, v_i p2, v_i p3, v_i p4, v_i p5] μ = mj_rI (kc d 48 [v_i p1] μ) fun x1 m2 => if x1 = 0 then (some (some (v_i (-2)), m2)) else (mj_rI (kc d 48 [v_i p3] m2) fun x3 m4 => if x3 = 0 then (some (some (v_i (-2)), m4)) else (if 0 ≤ p1 ∧ p1 < 4 then (if 0 ≤ p3 ∧ p3 < 4 then (mj_rI (kc d 194 [v_r 19 p1.toNat] m4) fun x5 m6 => if x5 = 0 then (mj_rI (kc d 194 [v_r 19 p3.toNat] m6) fun x7 m8 => if x7 = 0 then (if (m8 19 p1.toNat 0) = (m8 19 p3.toNat 0) then (if p5 < 0 then (some (some (v_i (-12)), m8)) else (mj_rI (kc d 44 [v_i p2, v_i 0, v_i (mj_w ((m8 19 p1.toNat 1) - p5))] m8) fun x9 m10 => if x9 = 0 then (some (some (v_i (-12)), m10)) else (mj_rI (kc d 44 [v_i p4, v_i 0, v_i (mj_w ((m10 19 p3.toNat 1) - p5))] m10) fun x11 m12 => if x11 = 0 then (some (some (v_i (-12)), m12)) else (if (0 : Int) ≤ p5 ∧ (0 : Int) ≤ p2 ∧ (0 : Int) ≤ p4 ∧ p2 + p5 ≤ 40 ∧ p4 + p5 ≤ 40 then (some (some (v_i p5), mj_cpy m12 20 p1.toNat p2.toNat 20 p3.toNat p4.toNat p5.toNat)) else (none))))) else (some (some (v_i (-13)), m8))) else (some (some (v_i (-11)), m8))) else (some (some (v_i (-11)), m6))) else (none)) else (none))) := (kd_unf [] 40).trans rfl
-- 42 NumbersCalled.pulls(IIII)I
set_option maxRecDepth 20000 in
theorem ke42_0 (d : Nat) (p1 : Int) (p2 : Int) (p3 : Int) (p4 : Int) (μ : mj_M) : kc (d + 1) 42 [v_r 0 0, v_i p1, v_i p2, v_i p3, v_i p4] μ = mj_rI (kc d 48 [v_i p1] μ) fun x1 m2 => if x1 = 0 then (some (some (v_i (-2)), m2)) else (mj_rI (kc d 44 [v_i p2, v_i 0, v_i 2] m2) fun x3 m4 => if x3 = 0 then (some (some (v_i (-2)), m4)) else (mj_rI (kc d 44 [v_i p4, v_i 0, v_i 13] m4) fun x5 m6 => if x5 = 0 then (some (some (v_i (-2)), m6)) else (if 0 ≤ p1 ∧ p1 < 4 then (mj_rI (kc d 194 [v_r 19 p1.toNat] m6) fun x7 m8 => if x7 = 0 then (if (m8 19 p1.toNat 0) = p2 then (kd d 42 5 [some (v_r 0 0), none, none, some (v_i p3), some (v_i p4), some (v_r 19 p1.toNat), some (v_i 0), some (v_i p3), some (v_i 0)] [] m8) else (some (some (v_i (-13)), m8))) else (some (some (v_i (-11)), m8))) else (none)))) := (kd_unf [5] 40).trans rfl
set_option maxRecDepth 20000 in
theorem ke42_5 (d : Nat) (o1 : Option mj_V) (o2 : Option mj_V) (o3 : Option mj_V) (a4 : Int) (i5 : Nat) (a6 : Int) (a7 : Int) (a8 : Int) (μ : mj_M) : kd d 42 5 [some (v_r 0 0), o1, o2, o3, some (v_i a4), some (v_r 19 i5), some (v_i a6), some (v_i a7), some (v_i a8)] [] μ = if a8 < a4 then (mj_rI (kc d 44 [v_i a7, v_i 0, v_i (mj_w ((μ 19 i5 1) - 3))] μ) fun x1 m2 => if x1 = 0 then (some (some (v_i (-12)), m2)) else (if 0 ≤ a7 ∧ a7 < 40 then (if 0 ≤ (mj_w (a7 + 1)) ∧ (mj_w (a7 + 1)) < 40 then (if 0 ≤ (mj_w (a7 + 2)) ∧ (mj_w (a7 + 2)) < 40 then (mj_rI (kc d 8 [v_r 0 0, v_i (m2 20 i5 a7.toNat), v_i (m2 20 i5 ((mj_w (a7 + 1)).toNat)), v_i (m2 20 i5 ((mj_w (a7 + 2)).toNat))] m2) fun x3 m4 => if x3 < 0 then (kd d 42 5 [some (v_r 0 0), none, none, none, some (v_i a4), some (v_r 19 i5), some (v_i a6), some (v_i (mj_w (a7 + 3))), some (v_i (mj_w (a8 + 1)))] [] m4) else (kd d 42 5 [some (v_r 0 0), none, none, none, some (v_i a4), some (v_r 19 i5), some (v_i (mj_w (a6 + 1))), some (v_i (mj_w (a7 + 3))), some (v_i (mj_w (a8 + 1)))] [] m4)) else (none)) else (none)) else (none))) else (some (some (v_i a6), μ)) := (kd_unf [5] 40).trans rfl
-- 43 NumbersCalled.taken(II)I
set_option maxRecDepth 20000 in
theorem ke43_0 (d : Nat) (p1 : Int) (p2 : Int) (μ : mj_M) : kc (d + 1) 43 [v_r 0 0, v_i p1, v_i p2] μ = mj_rI (kc d 44 [v_i p2, v_i 0, v_i 6] μ) fun x1 m2 => if x1 = 0 then (some (some (v_i (-2)), m2)) else (mj_rI (kc d 44 [v_i p1, v_i 0, v_i 19] m2) fun x3 m4 => if x3 = 0 then (some (some (v_i (-12)), m4)) else (if p2 = 6 then (kd d 43 4 [some (v_r 0 0), some (v_i p1), some (v_i p2), none, none] [v_i 1] m4) else (kd d 43 4 [some (v_r 0 0), some (v_i p1), some (v_i p2), none, none] [v_i 0] m4))) := (kd_unf [4] 40).trans rfl
set_option maxRecDepth 20000 in
theorem ke43_4 (d : Nat) (a1 : Int) (a2 : Int) (o3 : Option mj_V) (o4 : Option mj_V) (s0 : Int) (μ : mj_M) : kd d 43 4 [some (v_r 0 0), some (v_i a1), some (v_i a2), o3, o4] [v_i s0] μ = if a1 < 4 then (mj_rI (kc d 49 [v_r 0 0, v_i a1] μ) fun x5 m6 => if x5 = 0 then (some (some (v_i (-11)), m6)) else (if s0 = 0 then (some (some (v_i (-13)), m6)) else (if 0 ≤ a1 ∧ a1 < 4 then (some (some (v_i (m6 2 0 a1.toNat)), m6)) else (none)))) else (mj_rI (kc d 50 [v_r 0 0, v_i (mj_w (a1 - 4))] μ) fun x1 m2 => if x1 = 0 then (some (some (v_i (-11)), m2)) else (if s0 = 0 then (if 0 ≤ (mj_w (a1 - 4)) ∧ (mj_w (a1 - 4)) < 16 then (mj_rI (kc d 164 [v_r 7 ((mj_w (a1 - 4)).toNat), v_i a2] m2) fun x3 m4 => if x3 = 0 then (some (some (v_i (-13)), m4)) else (some (some (v_i (mj_w (a1 - 4))), m4))) else (none)) else (some (some (v_i (-13)), m2)))) := (kd_unf [4] 40).trans rfl
-- 44 NumbersCalled.within(III)Z
set_option maxRecDepth 20000 in
theorem ke44_0 (d : Nat) (p0 : Int) (p1 : Int) (p2 : Int) (μ : mj_M) : kc (d + 1) 44 [v_i p0, v_i p1, v_i p2] μ = if p0 < p1 then (some (some (v_i 0), μ)) else (if p2 < p0 then (some (some (v_i 0), μ)) else (some (some (v_i 1), μ))) := (kd_unf [] 40).trans rfl
end
section
/-! printed by wip/whole/eqs.py: what each cut of each method comes to -/
-- 45 NumbersCalled.bounded(III)I
set_option maxRecDepth 20000 in
theorem ke45_0 (d : Nat) (p0 : Int) (p1 : Int) (p2 : Int) (μ : mj_M) : kc (d + 1) 45 [v_i p0, v_i p1, v_i p2] μ = if p0 < p1 then (some (some (v_i p1), μ)) else (if p2 < p0 then (some (some (v_i p2), μ)) else (some (some (v_i p0), μ))) := (kd_unf [] 40).trans rfl
-- 46 NumbersCalled.isByte(I)Z
set_option maxRecDepth 20000 in
theorem ke46_0 (d : Nat) (p0 : Int) (μ : mj_M) : kc (d + 1) 46 [v_i p0] μ = mj_rI (kc d 44 [v_i p0, v_i 0, v_i 255] μ) fun x1 m2 => if x1 = 0 ∨ x1 = 1 then (some (some (v_i x1), m2)) else (none) := (kd_unf [] 40).trans rfl
-- 47 NumbersCalled.isPull(I)Z
set_option maxRecDepth 20000 in
theorem ke47_0 (d : Nat) (p0 : Int) (μ : mj_M) : kc (d + 1) 47 [v_i p0] μ = mj_rI (kc d 44 [v_i p0, v_i 0, v_i 3999] μ) fun x1 m2 => if x1 = 0 then (some (some (v_i 0), m2)) else (if 0 < ((mj_w (p0.tdiv 10)).tmod 100) then (some (some (v_i 1), m2)) else (some (some (v_i 0), m2))) := (kd_unf [] 40).trans rfl
-- 48 NumbersCalled.isSheet(I)Z
set_option maxRecDepth 20000 in
theorem ke48_0 (d : Nat) (p0 : Int) (μ : mj_M) : kc (d + 1) 48 [v_i p0] μ = mj_rI (kc d 44 [v_i p0, v_i 0, v_i 3] μ) fun x1 m2 => if x1 = 0 ∨ x1 = 1 then (some (some (v_i x1), m2)) else (none) := (kd_unf [] 40).trans rfl
-- 49 NumbersCalled.isCounter(I)Z
set_option maxRecDepth 20000 in
theorem ke49_0 (d : Nat) (p1 : Int) (μ : mj_M) : kc (d + 1) 49 [v_r 0 0, v_i p1] μ = mj_rI (kc d 44 [v_i p1, v_i 0, v_i (mj_w ((μ 1 0 0) - 1))] μ) fun x1 m2 => if x1 = 0 ∨ x1 = 1 then (some (some (v_i x1), m2)) else (none) := (kd_unf [] 40).trans rfl
-- 50 NumbersCalled.isAsker(I)Z
set_option maxRecDepth 20000 in
theorem ke50_0 (d : Nat) (p1 : Int) (μ : mj_M) : kc (d + 1) 50 [v_r 0 0, v_i p1] μ = mj_rI (kc d 44 [v_i p1, v_i 0, v_i (mj_w ((μ 1 0 4) - 1))] μ) fun x1 m2 => if x1 = 0 ∨ x1 = 1 then (some (some (v_i x1), m2)) else (none) := (kd_unf [] 40).trans rfl
-- 51 NumbersCalled.isOfCounter(II)Z
set_option maxRecDepth 20000 in
theorem ke51_0 (d : Nat) (p0 : Int) (p1 : Int) (μ : mj_M) : kc (d + 1) 51 [v_i p0, v_i p1] μ = if p0 = 0 then (mj_rI (kc d 44 [v_i p1, v_i 0, v_i 15] μ) fun x1 m2 => if x1 = 0 ∨ x1 = 1 then (some (some (v_i x1), m2)) else (none)) else if p0 = 1 then (mj_rI (kc d 44 [v_i p1, v_i 0, v_i 9] μ) fun x3 m4 => if x3 = 0 ∨ x3 = 1 then (some (some (v_i x3), m4)) else (none)) else if p0 = 2 then (mj_rI (kc d 44 [v_i p1, v_i (-1), v_i 119] μ) fun x5 m6 => if x5 = 0 ∨ x5 = 1 then (some (some (v_i x5), m6)) else (none)) else (some (some (v_i 0), μ)) := (kd_unf [] 40).trans rfl
-- 52 NumbersCalled.ofCounter(II)I
set_option maxRecDepth 20000 in
theorem ke52_0 (d : Nat) (p1 : Int) (p2 : Int) (μ : mj_M) : kc (d + 1) 52 [v_r 0 0, v_i p1, v_i p2] μ = if p2 = 0 then (if 0 ≤ p1 ∧ p1 < 4 then (some (some (v_i (μ 2 0 p1.toNat)), μ)) else (none)) else if p2 = 1 then (if 0 ≤ p1 ∧ p1 < 4 then (some (some (v_i (μ 3 0 p1.toNat)), μ)) else (none)) else (if 0 ≤ p1 ∧ p1 < 4 then (some (some (v_i (μ 4 0 p1.toNat)), μ)) else (none)) := (kd_unf [] 40).trans rfl
-- 53 NumbersCalled.isOfHall(II)Z
set_option maxRecDepth 20000 in
theorem ke53_0 (d : Nat) (p0 : Int) (p1 : Int) (μ : mj_M) : kc (d + 1) 53 [v_i p0, v_i p1] μ = if p0 = 0 then (mj_rI (kc d 44 [v_i p1, v_i 0, v_i 3] μ) fun x1 m2 => if x1 = 0 ∨ x1 = 1 then (some (some (v_i x1), m2)) else (none)) else if p0 = 1 then (mj_rI (kc d 44 [v_i p1, v_i 1, v_i 9] μ) fun x3 m4 => if x3 = 0 ∨ x3 = 1 then (some (some (v_i x3), m4)) else (none)) else (mj_rI (kc d 44 [v_i p1, v_i 0, v_i 120] μ) fun x5 m6 => if x5 = 0 ∨ x5 = 1 then (some (some (v_i x5), m6)) else (none)) := (kd_unf [] 40).trans rfl
-- 54 NumbersCalled.ofHall(I)I
set_option maxRecDepth 20000 in
theorem ke54_0 (d : Nat) (p1 : Int) (μ : mj_M) : kc (d + 1) 54 [v_r 0 0, v_i p1] μ = if p1 = 0 then (some (some (v_i (μ 1 0 6)), μ)) else if p1 = 1 then (some (some (v_i (μ 1 0 7)), μ)) else (some (some (v_i (μ 1 0 8)), μ)) := (kd_unf [] 40).trans rfl
-- 55 NumbersCalled.refusalOfRoll(I)I
set_option maxRecDepth 20000 in
theorem ke55_0 (d : Nat) (p1 : Int) (μ : mj_M) : kc (d + 1) 55 [v_r 0 0, v_i p1] μ = mj_rI (kc d 48 [v_i p1] μ) fun x1 m2 => if x1 = 0 then (some (some (v_i (-2)), m2)) else (if 0 ≤ p1 ∧ p1 < 4 then (mj_rI (kc d 194 [v_r 19 p1.toNat] m2) fun x3 m4 => if x3 = 0 then (if 0 ≤ p1 ∧ p1 < 4 then (if (m4 19 p1.toNat 1) = (m4 1 0 4) then (some (some (v_i 0), m4)) else (some (some (v_i (-2)), m4))) else (none)) else (some (some (v_i (-11)), m4))) else (none)) := (kd_unf [] 40).trans rfl
-- 56 NumbersCalled.planAsItIs()V
set_option maxRecDepth 20000 in
theorem ke56_0 (d : Nat)  (μ : mj_M) : kc (d + 1) 56 [v_r 0 0] μ = mj_rV (kc d 191 [v_r 1 2, v_r 1 0] μ) fun m1 => some (none, m1) := (kd_unf [] 40).trans rfl
-- 57 NumbersCalled.live()V
set_option maxRecDepth 20000 in
theorem ke57_0 (d : Nat)  (μ : mj_M) : kc (d + 1) 57 [v_r 0 0] μ = if 0 ≤ (μ 1 2 9) ∧ (μ 1 2 9) < 6 then (mj_rV (kc d 170 [v_r 21 0, v_r 6 0, v_r 9 ((μ 1 2 9).toNat)] μ) fun m1 => some (none, m1)) else (none) := (kd_unf [] 40).trans rfl
-- 58 NumbersCalled.liveAsItIs()V
set_option maxRecDepth 20000 in
theorem ke58_0 (d : Nat)  (μ : mj_M) : kc (d + 1) 58 [v_r 0 0] μ = mj_rV (kc d 56 [v_r 0 0] μ) fun m1 => mj_rV (kc d 57 [v_r 0 0] m1) fun m2 => some (none, m2) := (kd_unf [] 40).trans rfl
-- 59 NumbersCalled.planDrawn(I)V
set_option maxRecDepth 20000 in
theorem ke59_0 (d : Nat) (p1 : Int) (μ : mj_M) : kc (d + 1) 59 [v_r 0 0, v_i p1] μ = mj_rV (kc d 56 [v_r 0 0] μ) fun m1 => kd d 59 1 [some (v_r 0 0), some (v_i p1), some (v_l (mj_x (p1 + 1))), none, some (v_i 0), none] [] m1 := (kd_unf [1] 40).trans rfl
set_option maxRecDepth 20000 in
theorem ke59_1 (d : Nat) (o1 : Option mj_V) (a2 : Int) (o3 : Option mj_V) (a4 : Int) (o5 : Option mj_V) (μ : mj_M) : kd d 59 1 [some (v_r 0 0), o1, some (v_l a2), o3, some (v_i a4), o5] [] μ = if a4 < (μ 1 0 4) then (if 0 ≤ a4 ∧ a4 < 16 then (mj_rI (kc d 45 [v_i (mj_w ((μ 5 0 a4.toNat) + (mj_w ((mj_w (((mj_x (a2 * 48271)).tmod 2147483647).tmod 21)) - 10)))), v_i 0, v_i 119] μ) fun x1 m2 => if 0 ≤ a4 ∧ a4 < 16 then (kd d 59 1 [some (v_r 0 0), none, some (v_l ((mj_x (a2 * 48271)).tmod 2147483647)), none, some (v_i (mj_w (a4 + 1))), some (v_i (mj_w ((mj_w (((mj_x (a2 * 48271)).tmod 2147483647).tmod 21)) - 10)))] [] (mj_up m2 5 2 a4.toNat x1)) else (none)) else (none)) else (some (none, μ)) := (kd_unf [1] 40).trans rfl
-- 60 NumbersCalled.isTrained(III)Z
set_option maxRecDepth 20000 in
theorem ke60_0 (d : Nat) (p1 : Int) (p2 : Int) (p3 : Int) (μ : mj_M) : kc (d + 1) 60 [v_r 0 0, v_i p1, v_i p2, v_i p3] μ = mj_rV (kc d 56 [v_r 0 0] μ) fun m1 => mj_rV (kc d 192 [v_r 1 2, v_i p1] m1) fun m2 => mj_rV (kc d 192 [v_r 1 2, v_i p2] m2) fun m3 => mj_rV (kc d 57 [v_r 0 0] m3) fun m4 => mj_rI (kc d 180 [v_r 21 0, v_i 2] m4) fun x5 m6 => if x5 = (m6 1 0 4) then (mj_rI (kc d 182 [v_r 21 0] m6) fun x7 m8 => if p3 < x7 then (some (some (v_i 0), m8)) else (some (some (v_i 1), m8))) else (some (some (v_i 0), m6)) := (kd_unf [] 40).trans rfl
-- 61 NumbersCalled.skillName(I)I
set_option maxRecDepth 20000 in
theorem ke61_0 (d : Nat) (p0 : Int) (μ : mj_M) : kc (d + 1) 61 [v_i p0] μ = some (some (v_i (mj_w ((mj_w ((mj_w (p0.tdiv 4)) * 10)) + (p0.tmod 4)))), μ) := (kd_unf [] 40).trans rfl
-- 62 NumbersCalled.someoneComes(I)Z
set_option maxRecDepth 20000 in
theorem ke62_0 (d : Nat) (p1 : Int) (μ : mj_M) : kc (d + 1) 62 [v_r 0 0, v_i p1] μ = kd d 62 1 [some (v_r 0 0), some (v_i p1), some (v_i 0)] [] μ := (kd_unf [1] 40).trans rfl
set_option maxRecDepth 20000 in
theorem ke62_1 (d : Nat) (a1 : Int) (a2 : Int) (μ : mj_M) : kd d 62 1 [some (v_r 0 0), some (v_i a1), some (v_i a2)] [] μ = if a2 < (μ 1 0 4) then (if 0 ≤ a2 ∧ a2 < 16 then (if (μ 5 0 a2.toNat) = a1 then (some (some (v_i 1), μ)) else (kd d 62 1 [some (v_r 0 0), some (v_i a1), some (v_i (mj_w (a2 + 1)))] [] μ)) else (none)) else (some (some (v_i 0), μ)) := (kd_unf [1] 40).trans rfl
-- 63 NumbersCalled.waitsOfOthers(I)I
set_option maxRecDepth 20000 in
theorem ke63_0 (d : Nat) (p1 : Int) (μ : mj_M) : kc (d + 1) 63 [v_r 0 0, v_i p1] μ = kd d 63 1 [some (v_r 0 0), some (v_i p1), some (v_i 0), some (v_i 0), none] [] μ := (kd_unf [1, 2, 5] 40).trans rfl
set_option maxRecDepth 20000 in
theorem ke63_1 (d : Nat) (a1 : Int) (a2 : Int) (a3 : Int) (o4 : Option mj_V) (μ : mj_M) : kd d 63 1 [some (v_r 0 0), some (v_i a1), some (v_i a2), some (v_i a3), o4] [] μ = if a3 < (μ 1 0 4) then (if a1 = 1 then (if 0 ≤ a3 ∧ a3 < 16 then (mj_rI (kc d 165 [v_r 7 a3.toNat] μ) fun x1 m2 => if x1 = 0 then (kd d 63 2 [some (v_r 0 0), some (v_i a1), some (v_i a2), some (v_i a3), none] [] m2) else (kd d 63 5 [some (v_r 0 0), some (v_i a1), some (v_i a2), some (v_i a3), none] [v_i 1] m2)) else (none)) else (kd d 63 2 [some (v_r 0 0), some (v_i a1), some (v_i a2), some (v_i a3), none] [] μ)) else (some (some (v_i a2), μ)) := (kd_unf [1, 2, 5] 40).trans rfl
set_option maxRecDepth 20000 in
theorem ke63_2 (d : Nat) (a1 : Int) (a2 : Int) (a3 : Int) (o4 : Option mj_V) (μ : mj_M) : kd d 63 2 [some (v_r 0 0), some (v_i a1), some (v_i a2), some (v_i a3), o4] [] μ = if a1 = 3 then (if 0 ≤ a3 ∧ a3 < 16 then (mj_rI (kc d 166 [v_r 7 a3.toNat] μ) fun x1 m2 => if x1 = 0 then (kd d 63 5 [some (v_r 0 0), some (v_i a1), some (v_i a2), some (v_i a3), none] [v_i 0] m2) else (kd d 63 5 [some (v_r 0 0), some (v_i a1), some (v_i a2), some (v_i a3), none] [v_i 1] m2)) else (none)) else (kd d 63 5 [some (v_r 0 0), some (v_i a1), some (v_i a2), some (v_i a3), none] [v_i 0] μ) := (kd_unf [1, 2, 5] 40).trans rfl
set_option maxRecDepth 20000 in
theorem ke63_5 (d : Nat) (a1 : Int) (a2 : Int) (a3 : Int) (o4 : Option mj_V) (s0 : Int) (μ : mj_M) : kd d 63 5 [some (v_r 0 0), some (v_i a1), some (v_i a2), some (v_i a3), o4] [v_i s0] μ = if s0 = 0 then (if 0 ≤ a3 ∧ a3 < 16 then (if (μ 22 0 a3.toNat) = 2 then (mj_rI (kc d 178 [v_r 21 0, v_i a3] μ) fun x1 m2 => kd d 63 1 [some (v_r 0 0), some (v_i a1), some (v_i (mj_w (a2 + x1))), some (v_i (mj_w (a3 + 1))), none] [] m2) else (kd d 63 1 [some (v_r 0 0), some (v_i a1), some (v_i a2), some (v_i (mj_w (a3 + 1))), none] [] μ)) else (none)) else (kd d 63 1 [some (v_r 0 0), some (v_i a1), some (v_i a2), some (v_i (mj_w (a3 + 1))), none] [] μ) := (kd_unf [1, 2, 5] 40).trans rfl
-- 64 NumbersCalled.minded(LNumbersCalled$Asker;II)I
set_option maxRecDepth 20000 in
theorem ke64_0 (d : Nat) (i1 : Nat) (p2 : Int) (p3 : Int) (μ : mj_M) : kc (d + 1) 64 [v_r 0 0, v_r 7 i1, v_i p2, v_i p3] μ = if 0 ≤ (μ 1 0 9) ∧ (μ 1 0 9) < 6 then (mj_rI (kc d 215 [v_r 9 ((μ 1 0 9).toNat), v_i 2, v_r 7 i1, v_i p2, v_i 0, v_i p3] μ) fun x1 m2 => mj_rI (kc d 45 [v_i x1, v_i 0, v_i 999] m2) fun x3 m4 => some (some (v_i x3), m4)) else (none) := (kd_unf [] 40).trans rfl
-- 65 NumbersCalled.seekBest(I)V
set_option maxRecDepth 20000 in
theorem ke65_0 (d : Nat) (p1 : Int) (μ : mj_M) : kc (d + 1) 65 [v_r 0 0, v_i p1] μ = mj_rV (kc d 188 [v_r 31 0] μ) fun m1 => kd d 65 1 [some (v_r 0 0), some (v_i p1), some (v_i 0)] [] m1 := (kd_unf [1] 40).trans rfl
set_option maxRecDepth 20000 in
theorem ke65_1 (d : Nat) (a1 : Int) (a2 : Int) (μ : mj_M) : kd d 65 1 [some (v_r 0 0), some (v_i a1), some (v_i a2)] [] μ = if 100 < a2 then (some (none, μ)) else (if 0 ≤ a1 ∧ a1 < 16 then (mj_rV (kc d 57 [v_r 0 0] (mj_up μ 5 2 a1.toNat a2)) fun m1 => mj_rI (kc d 179 [v_r 21 0, v_i a1] m1) fun x2 m3 => mj_rV (kc d 189 [v_r 31 0, v_i a2, v_i x2] m3) fun m4 => kd d 65 1 [some (v_r 0 0), some (v_i a1), some (v_i (mj_w (a2 + 20)))] [] m4) else (none)) := (kd_unf [1] 40).trans rfl
-- 66 NumbersCalled.wouldMove(I)Z
set_option maxRecDepth 20000 in
theorem ke66_0 (d : Nat) (p1 : Int) (μ : mj_M) : kc (d + 1) 66 [v_r 0 0, v_i p1] μ = mj_rV (kc d 58 [v_r 0 0] μ) fun m1 => mj_rI (kc d 179 [v_r 21 0, v_i p1] m1) fun x2 m3 => mj_rV (kc d 65 [v_r 0 0, v_i p1] m3) fun m4 => if (m4 31 0 1) < x2 then (some (some (v_i 1), m4)) else (some (some (v_i 0), m4)) := (kd_unf [] 40).trans rfl
-- 67 NumbersCalled.firstOtherwise(LNumbersCalled$Sheet;)I
set_option maxRecDepth 20000 in
theorem ke67_0 (d : Nat) (i1 : Nat) (μ : mj_M) : kc (d + 1) 67 [v_r 0 0, v_r 19 i1] μ = kd d 67 1 [some (v_r 0 0), some (v_r 19 i1), some (v_i 0)] [] μ := (kd_unf [1] 40).trans rfl
set_option maxRecDepth 20000 in
theorem ke67_1 (d : Nat) (i1 : Nat) (a2 : Int) (μ : mj_M) : kd d 67 1 [some (v_r 0 0), some (v_r 19 i1), some (v_i a2)] [] μ = if a2 < (μ 1 0 4) then (if 0 ≤ a2 ∧ a2 < 40 then (if 0 ≤ a2 ∧ a2 < 16 then (if (μ 20 i1 a2.toNat) = (μ 24 0 a2.toNat) then (kd d 67 1 [some (v_r 0 0), some (v_r 19 i1), some (v_i (mj_w (a2 + 1)))] [] μ) else (some (some (v_i a2), μ))) else (none)) else (none)) else (some (some (v_i (-1)), μ)) := (kd_unf [1] 40).trans rfl
-- 68 NumbersCalled.startParts()V
set_option maxRecDepth 20000 in
theorem ke68_0 (d : Nat)  (μ : mj_M) : kc (d + 1) 68 [v_r 0 0] μ = kd d 68 1 [some (v_r 0 0), some (v_i 0)] [] μ := (kd_unf [1] 40).trans rfl
set_option maxRecDepth 20000 in
theorem ke68_1 (d : Nat) (a1 : Int) (μ : mj_M) : kd d 68 1 [some (v_r 0 0), some (v_i a1)] [] μ = if 40 < a1 then (some (none, mj_up μ 32 0 0 1000000000)) else (if 0 ≤ a1 ∧ a1 < 41 then (kd d 68 1 [some (v_r 0 0), some (v_i (mj_w (a1 + 1)))] [] (mj_up μ 32 0 a1.toNat 0)) else (none)) := (kd_unf [1] 40).trans rfl
-- 69 NumbersCalled.giveOneMore(II)V
set_option maxRecDepth 20000 in
theorem ke69_0 (d : Nat) (p1 : Int) (p2 : Int) (μ : mj_M) : kc (d + 1) 69 [v_r 0 0, v_i p1, v_i p2] μ = kd d 69 1 [some (v_r 0 0), some (v_i p1), some (v_i p2), some (v_l (mj_w (100 - p2))), none, some (v_i p1)] [] μ := (kd_unf [1] 40).trans rfl
set_option maxRecDepth 20000 in
theorem ke69_1 (d : Nat) (o1 : Option mj_V) (a2 : Int) (a3 : Int) (o4 : Option mj_V) (a5 : Int) (μ : mj_M) : kd d 69 1 [some (v_r 0 0), o1, some (v_i a2), some (v_l a3), o4, some (v_i a5)] [] μ = if a5 < 1 then (some (none, mj_up μ 32 0 0 (mj_x ((mj_x ((μ 32 0 0) * a3)).tdiv 100)))) else (if 0 ≤ a5 ∧ a5 < 41 then (if 0 ≤ (mj_w (a5 - 1)) ∧ (mj_w (a5 - 1)) < 41 then (if 0 ≤ a5 ∧ a5 < 41 then (kd d 69 1 [some (v_r 0 0), none, some (v_i a2), some (v_l a3), none, some (v_i (mj_w (a5 + (-1))))] [] (mj_up μ 32 0 a5.toNat (mj_x ((mj_x ((mj_x ((μ 32 0 a5.toNat) * a3)).tdiv 100)) + (mj_x ((mj_x ((μ 32 0 ((mj_w (a5 - 1)).toNat)) * a2)).tdiv 100)))))) else (none)) else (none)) else (none)) := (kd_unf [1] 40).trans rfl
-- 70 NumbersCalled.partsAbove(I)J
set_option maxRecDepth 20000 in
theorem ke70_0 (d : Nat) (p1 : Int) (μ : mj_M) : kc (d + 1) 70 [v_r 0 0, v_i p1] μ = kd d 70 1 [some (v_r 0 0), some (v_i p1), some (v_l 0), none, some (v_i (mj_w (p1 + 1)))] [] μ := (kd_unf [1] 40).trans rfl
set_option maxRecDepth 20000 in
theorem ke70_1 (d : Nat) (o1 : Option mj_V) (a2 : Int) (o3 : Option mj_V) (a4 : Int) (μ : mj_M) : kd d 70 1 [some (v_r 0 0), o1, some (v_l a2), o3, some (v_i a4)] [] μ = if 40 < a4 then (some (some (v_l a2), μ)) else (if 0 ≤ a4 ∧ a4 < 41 then (kd d 70 1 [some (v_r 0 0), none, some (v_l (mj_x (a2 + (μ 32 0 a4.toNat)))), none, some (v_i (mj_w (a4 + 1)))] [] μ) else (none)) := (kd_unf [1] 40).trans rfl
-- 71 NumbersCalled.commonDivisor(II)I
set_option maxRecDepth 20000 in
theorem ke71_0 (d : Nat) (p0 : Int) (p1 : Int) (μ : mj_M) : kc (d + 1) 71 [v_i p0, v_i p1] μ = kd d 71 1 [some (v_i p0), some (v_i p1), some (v_i p1)] [] μ := (kd_unf [1] 40).trans rfl
set_option maxRecDepth 20000 in
theorem ke71_1 (d : Nat) (a0 : Int) (a1 : Int) (a2 : Int) (μ : mj_M) : kd d 71 1 [some (v_i a0), some (v_i a1), some (v_i a2)] [] μ = if 1 < a2 then (if a2 = 0 then (none) else (if (a0.tmod a2) = 0 then (if a2 = 0 then (none) else (if (a1.tmod a2) = 0 then (some (some (v_i a2), μ)) else (kd d 71 1 [some (v_i a0), some (v_i a1), some (v_i (mj_w (a2 + (-1))))] [] μ))) else (kd d 71 1 [some (v_i a0), some (v_i a1), some (v_i (mj_w (a2 + (-1))))] [] μ))) else (some (some (v_i 1), μ)) := (kd_unf [1] 40).trans rfl
-- 72 NumbersCalledModel.in(III)Z
set_option maxRecDepth 20000 in
theorem ke72_0 (d : Nat) (p0 : Int) (p1 : Int) (p2 : Int) (μ : mj_M) : kc (d + 1) 72 [v_i p0, v_i p1, v_i p2] μ = if p0 < p1 then (some (some (v_i 0), μ)) else (if p2 < p0 then (some (some (v_i 0), μ)) else (some (some (v_i 1), μ))) := (kd_unf [] 40).trans rfl
-- 73 NumbersCalledModel.within(III)I
set_option maxRecDepth 20000 in
theorem ke73_0 (d : Nat) (p0 : Int) (p1 : Int) (p2 : Int) (μ : mj_M) : kc (d + 1) 73 [v_i p0, v_i p1, v_i p2] μ = if p0 < p1 then (some (some (v_i p1), μ)) else (if p2 < p0 then (some (some (v_i p2), μ)) else (some (some (v_i p0), μ))) := (kd_unf [] 40).trans rfl
-- 74 NumbersCalledModel.isCounter(I)Z
set_option maxRecDepth 20000 in
theorem ke74_0 (d : Nat) (p1 : Int) (μ : mj_M) : kc (d + 1) 74 [v_r 33 0, v_i p1] μ = mj_rI (kc d 72 [v_i p1, v_i 0, v_i (mj_w ((μ 33 0 0) - 1))] μ) fun x1 m2 => if x1 = 0 ∨ x1 = 1 then (some (some (v_i x1), m2)) else (none) := (kd_unf [] 40).trans rfl
-- 75 NumbersCalledModel.isAsker(I)Z
set_option maxRecDepth 20000 in
theorem ke75_0 (d : Nat) (p1 : Int) (μ : mj_M) : kc (d + 1) 75 [v_r 33 0, v_i p1] μ = mj_rI (kc d 72 [v_i p1, v_i 0, v_i (mj_w ((μ 33 0 5) - 1))] μ) fun x1 m2 => if x1 = 0 ∨ x1 = 1 then (some (some (v_i x1), m2)) else (none) := (kd_unf [] 40).trans rfl
-- 76 NumbersCalledModel.isTold(II)Z
set_option maxRecDepth 20000 in
theorem ke76_0 (d : Nat) (p0 : Int) (p1 : Int) (μ : mj_M) : kc (d + 1) 76 [v_i p0, v_i p1] μ = if p0 = 0 then (mj_rI (kc d 72 [v_i p1, v_i 0, v_i 15] μ) fun x5 m6 => if x5 = 0 ∨ x5 = 1 then (some (some (v_i x5), m6)) else (none)) else (if p0 = 1 then (mj_rI (kc d 72 [v_i p1, v_i 0, v_i 9] μ) fun x3 m4 => if x3 = 0 ∨ x3 = 1 then (some (some (v_i x3), m4)) else (none)) else (if p0 = 2 then (mj_rI (kc d 72 [v_i p1, v_i (-1), v_i 119] μ) fun x1 m2 => if x1 = 0 then (some (some (v_i 0), m2)) else (some (some (v_i 1), m2))) else (some (some (v_i 0), μ)))) := (kd_unf [] 40).trans rfl
-- 77 NumbersCalledModel.counter(II)I
set_option maxRecDepth 20000 in
theorem ke77_0 (d : Nat) (p1 : Int) (p2 : Int) (μ : mj_M) : kc (d + 1) 77 [v_r 33 0, v_i p1, v_i p2] μ = mj_rI (kc d 76 [v_i 0, v_i p1] μ) fun x1 m2 => if x1 = 0 then (some (some (v_i (-2)), m2)) else (mj_rI (kc d 76 [v_i 1, v_i p2] m2) fun x3 m4 => if x3 = 0 then (some (some (v_i (-2)), m4)) else (if (m4 33 0 0) = 4 then (some (some (v_i (-4)), m4)) else (if 0 ≤ (mj_w (3 * (m4 33 0 0))) ∧ (mj_w (3 * (m4 33 0 0))) < 12 then (if 0 ≤ (mj_w ((mj_w (3 * (m4 33 0 0))) + 1)) ∧ (mj_w ((mj_w (3 * (m4 33 0 0))) + 1)) < 12 then (if 0 ≤ (mj_w ((mj_w (3 * (m4 33 0 0))) + 2)) ∧ (mj_w ((mj_w (3 * (m4 33 0 0))) + 2)) < 12 then (some (some (v_i (mj_w ((mj_w ((m4 33 0 0) + 1)) - 1))), mj_up (mj_up (mj_up (mj_up m4 34 0 ((mj_w (3 * (m4 33 0 0))).toNat) p1) 34 0 ((mj_w ((mj_w (3 * (m4 33 0 0))) + 1)).toNat) p2) 34 0 ((mj_w ((mj_w (3 * (m4 33 0 0))) + 2)).toNat) (-1)) 33 0 0 (mj_w ((m4 33 0 0) + 1)))) else (none)) else (none)) else (none)))) := (kd_unf [] 40).trans rfl
-- 78 NumbersCalledModel.change(III)I
set_option maxRecDepth 20000 in
theorem ke78_0 (d : Nat) (p1 : Int) (p2 : Int) (p3 : Int) (μ : mj_M) : kc (d + 1) 78 [v_r 33 0, v_i p1, v_i p2, v_i p3] μ = mj_rI (kc d 74 [v_r 33 0, v_i p1] μ) fun x1 m2 => if x1 = 0 then (some (some (v_i (-5)), m2)) else (mj_rI (kc d 76 [v_i p2, v_i p3] m2) fun x3 m4 => if x3 = 0 then (some (some (v_i (-7)), m4)) else (if 0 ≤ (mj_w ((mj_w (3 * p1)) + p2)) ∧ (mj_w ((mj_w (3 * p1)) + p2)) < 12 then (if 0 ≤ (mj_w ((mj_w (3 * p1)) + p2)) ∧ (mj_w ((mj_w (3 * p1)) + p2)) < 12 then (some (some (v_i (m4 34 0 ((mj_w ((mj_w (3 * p1)) + p2)).toNat))), mj_up m4 34 0 ((mj_w ((mj_w (3 * p1)) + p2)).toNat) p3)) else (none)) else (none))) := (kd_unf [] 40).trans rfl
-- 79 NumbersCalledModel.counterTold(II)I
set_option maxRecDepth 20000 in
theorem ke79_0 (d : Nat) (p1 : Int) (p2 : Int) (μ : mj_M) : kc (d + 1) 79 [v_r 33 0, v_i p1, v_i p2] μ = mj_rI (kc d 74 [v_r 33 0, v_i p1] μ) fun x1 m2 => if x1 = 0 then (some (some (v_i (-5)), m2)) else (mj_rI (kc d 72 [v_i p2, v_i 0, v_i 2] m2) fun x3 m4 => if x3 = 0 then (some (some (v_i (-7)), m4)) else (if 0 ≤ (mj_w ((mj_w (3 * p1)) + p2)) ∧ (mj_w ((mj_w (3 * p1)) + p2)) < 12 then (some (some (v_i (m4 34 0 ((mj_w ((mj_w (3 * p1)) + p2)).toNat))), m4)) else (none))) := (kd_unf [] 40).trans rfl
-- 80 NumbersCalledModel.set(II)I
set_option maxRecDepth 20000 in
theorem ke80_0 (d : Nat) (p1 : Int) (p2 : Int) (μ : mj_M) : kc (d + 1) 80 [v_r 33 0, v_i p1, v_i p2] μ = mj_rI (kc d 72 [v_i p1, v_i 0, v_i 2] μ) fun x1 m2 => if x1 = 0 then (some (some (v_i (-1)), m2)) else (if p1 = 0 then (mj_rI (kc d 72 [v_i p2, v_i 0, v_i 3] m2) fun x7 m8 => kd d 80 4 [some (v_r 33 0), some (v_i p1), some (v_i p2), none, none] [v_i x7] m8) else (if p1 = 1 then (mj_rI (kc d 72 [v_i p2, v_i 1, v_i 9] m2) fun x5 m6 => kd d 80 4 [some (v_r 33 0), some (v_i p1), some (v_i p2), none, none] [v_i x5] m6) else (mj_rI (kc d 72 [v_i p2, v_i 0, v_i 120] m2) fun x3 m4 => kd d 80 4 [some (v_r 33 0), some (v_i p1), some (v_i p2), none, none] [v_i x3] m4))) := (kd_unf [4, 9] 40).trans rfl
set_option maxRecDepth 20000 in
theorem ke80_4 (d : Nat) (a1 : Int) (a2 : Int) (o3 : Option mj_V) (o4 : Option mj_V) (s0 : Int) (μ : mj_M) : kd d 80 4 [some (v_r 33 0), some (v_i a1), some (v_i a2), o3, o4] [v_i s0] μ = if s0 = 0 then (some (some (v_i (-2)), μ)) else (mj_rI (kc d 81 [v_r 33 0, v_i a1] μ) fun x1 m2 => if a1 = 0 then (if a1 = 1 then (kd d 80 9 [some (v_r 33 0), some (v_i a1), some (v_i a2), none, some (v_i x1)] [v_i a2, v_r 33 0] (mj_up m2 33 0 2 a2)) else (kd d 80 9 [some (v_r 33 0), some (v_i a1), some (v_i a2), none, some (v_i x1)] [v_i (m2 33 0 3), v_r 33 0] (mj_up m2 33 0 2 a2))) else (if a1 = 1 then (kd d 80 9 [some (v_r 33 0), some (v_i a1), some (v_i a2), none, some (v_i x1)] [v_i a2, v_r 33 0] (mj_up m2 33 0 2 (m2 33 0 2))) else (kd d 80 9 [some (v_r 33 0), some (v_i a1), some (v_i a2), none, some (v_i x1)] [v_i (m2 33 0 3), v_r 33 0] (mj_up m2 33 0 2 (m2 33 0 2))))) := (kd_unf [4, 9] 40).trans rfl
set_option maxRecDepth 20000 in
theorem ke80_9 (d : Nat) (a1 : Int) (a2 : Int) (o3 : Option mj_V) (a4 : Int) (s0 : Int) (μ : mj_M) : kd d 80 9 [some (v_r 33 0), some (v_i a1), some (v_i a2), o3, some (v_i a4)] [v_i s0, v_r 33 0] μ = if a1 = 2 then (some (some (v_i a4), mj_up (mj_up μ 33 0 3 s0) 33 0 4 a2)) else (some (some (v_i a4), mj_up (mj_up μ 33 0 3 s0) 33 0 4 (μ 33 0 4))) := (kd_unf [4, 9] 40).trans rfl
-- 81 NumbersCalledModel.count(I)I
set_option maxRecDepth 20000 in
theorem ke81_0 (d : Nat) (p1 : Int) (μ : mj_M) : kc (d + 1) 81 [v_r 33 0, v_i p1] μ = if p1 = 0 then (some (some (v_i (μ 33 0 2)), μ)) else if p1 = 1 then (some (some (v_i (μ 33 0 3)), μ)) else if p1 = 2 then (some (some (v_i (μ 33 0 4)), μ)) else if p1 = 3 then (some (some (v_i (μ 33 0 0)), μ)) else if p1 = 4 then (some (some (v_i (μ 33 0 5)), μ)) else if p1 = 5 then (some (some (v_i (μ 33 0 15)), μ)) else if p1 = 6 then (some (some (v_i (μ 33 0 16)), μ)) else if p1 = 7 then (some (some (v_i (μ 33 0 12)), μ)) else (some (some (v_i (-2)), μ)) := (kd_unf [] 40).trans rfl
-- 82 NumbersCalledModel.isByte(I)Z
set_option maxRecDepth 20000 in
theorem ke82_0 (d : Nat) (p0 : Int) (μ : mj_M) : kc (d + 1) 82 [v_i p0] μ = mj_rI (kc d 72 [v_i p0, v_i 0, v_i 255] μ) fun x1 m2 => if x1 = 0 ∨ x1 = 1 then (some (some (v_i x1), m2)) else (none) := (kd_unf [] 40).trans rfl
-- 83 NumbersCalledModel.feed(IIIIII)I
set_option maxRecDepth 20000 in
theorem ke83_0 (d : Nat) (p1 : Int) (p2 : Int) (p3 : Int) (p4 : Int) (p5 : Int) (p6 : Int) (μ : mj_M) : kc (d + 1) 83 [v_r 33 0, v_i p1, v_i p2, v_i p3, v_i p4, v_i p5, v_i p6] μ = mj_rI (kc d 72 [v_i p1, v_i 1, v_i 5] μ) fun x1 m2 => if x1 = 0 then (some (some (v_i (-2)), m2)) else (mj_rI (kc d 82 [v_i p2] m2) fun x3 m4 => if x3 = 0 then (some (some (v_i (-2)), m4)) else (mj_rI (kc d 82 [v_i p3] m4) fun x5 m6 => if x5 = 0 then (some (some (v_i (-2)), m6)) else (mj_rI (kc d 82 [v_i p4] m6) fun x7 m8 => if x7 = 0 then (some (some (v_i (-2)), m8)) else (mj_rI (kc d 82 [v_i p5] m8) fun x9 m10 => if x9 = 0 then (some (some (v_i (-2)), m10)) else (mj_rI (kc d 82 [v_i p6] m10) fun x11 m12 => if x11 = 0 then (some (some (v_i (-2)), m12)) else (if 160 < (mj_w ((m12 33 0 12) + p1)) then (some (some (v_i (-4)), m12)) else (kd d 83 4 [some (v_r 33 0), some (v_i p1), some (v_i p2), some (v_i p3), some (v_i p4), some (v_i p5), some (v_i p6), some (v_i 0)] [] m12))))))) := (kd_unf [4] 40).trans rfl
set_option maxRecDepth 20000 in
theorem ke83_4 (d : Nat) (a1 : Int) (a2 : Int) (a3 : Int) (a4 : Int) (a5 : Int) (a6 : Int) (a7 : Int) (μ : mj_M) : kd d 83 4 [some (v_r 33 0), some (v_i a1), some (v_i a2), some (v_i a3), some (v_i a4), some (v_i a5), some (v_i a6), some (v_i a7)] [] μ = if a7 < a1 then (if a7 = 0 then (if 0 ≤ (μ 33 0 12) ∧ (μ 33 0 12) < 160 then (kd d 83 4 [some (v_r 33 0), some (v_i a1), some (v_i a2), some (v_i a3), some (v_i a4), some (v_i a5), some (v_i a6), some (v_i (mj_w (a7 + 1)))] [] (mj_up (mj_up μ 40 0 ((μ 33 0 12).toNat) a2) 33 0 12 (mj_w ((μ 33 0 12) + 1)))) else (none)) else (if a7 = 1 then (if 0 ≤ (μ 33 0 12) ∧ (μ 33 0 12) < 160 then (kd d 83 4 [some (v_r 33 0), some (v_i a1), some (v_i a2), some (v_i a3), some (v_i a4), some (v_i a5), some (v_i a6), some (v_i (mj_w (a7 + 1)))] [] (mj_up (mj_up μ 40 0 ((μ 33 0 12).toNat) a3) 33 0 12 (mj_w ((μ 33 0 12) + 1)))) else (none)) else (if a7 = 2 then (if 0 ≤ (μ 33 0 12) ∧ (μ 33 0 12) < 160 then (kd d 83 4 [some (v_r 33 0), some (v_i a1), some (v_i a2), some (v_i a3), some (v_i a4), some (v_i a5), some (v_i a6), some (v_i (mj_w (a7 + 1)))] [] (mj_up (mj_up μ 40 0 ((μ 33 0 12).toNat) a4) 33 0 12 (mj_w ((μ 33 0 12) + 1)))) else (none)) else (if a7 = 3 then (if 0 ≤ (μ 33 0 12) ∧ (μ 33 0 12) < 160 then (kd d 83 4 [some (v_r 33 0), some (v_i a1), some (v_i a2), some (v_i a3), some (v_i a4), some (v_i a5), some (v_i a6), some (v_i (mj_w (a7 + 1)))] [] (mj_up (mj_up μ 40 0 ((μ 33 0 12).toNat) a5) 33 0 12 (mj_w ((μ 33 0 12) + 1)))) else (none)) else (if 0 ≤ (μ 33 0 12) ∧ (μ 33 0 12) < 160 then (kd d 83 4 [some (v_r 33 0), some (v_i a1), some (v_i a2), some (v_i a3), some (v_i a4), some (v_i a5), some (v_i a6), some (v_i (mj_w (a7 + 1)))] [] (mj_up (mj_up μ 40 0 ((μ 33 0 12).toNat) a6) 33 0 12 (mj_w ((μ 33 0 12) + 1)))) else (none)))))) else (some (some (v_i (μ 33 0 12)), μ)) := (kd_unf [4] 40).trans rfl
-- 84 NumbersCalledModel.wordFrom(II)I
set_option maxRecDepth 20000 in
theorem ke84_0 (d : Nat) (p1 : Int) (p2 : Int) (μ : mj_M) : kc (d + 1) 84 [v_r 33 0, v_i p1, v_i p2] μ = kd d 84 1 [some (v_r 33 0), some (v_i p1), some (v_i p2), some (v_i 0), none, none] [] μ := (kd_unf [1, 4, 6] 40).trans rfl
set_option maxRecDepth 20000 in
theorem ke84_1 (d : Nat) (a1 : Int) (a2 : Int) (a3 : Int) (o4 : Option mj_V) (o5 : Option mj_V) (μ : mj_M) : kd d 84 1 [some (v_r 33 0), some (v_i a1), some (v_i a2), some (v_i a3), o4, o5] [] μ = if a3 < 12 then (if 8 < (mj_w (a2 - a1)) then (kd d 84 4 [some (v_r 33 0), some (v_i a1), some (v_i a2), some (v_i a3), some (v_i 0), some (v_i 0)] [] μ) else (kd d 84 4 [some (v_r 33 0), some (v_i a1), some (v_i a2), some (v_i a3), some (v_i 1), some (v_i 0)] [] μ)) else (some (some (v_i 12), μ)) := (kd_unf [1, 4, 6] 40).trans rfl
set_option maxRecDepth 20000 in
theorem ke84_4 (d : Nat) (a1 : Int) (a2 : Int) (a3 : Int) (a4 : Int) (a5 : Int) (μ : mj_M) : kd d 84 4 [some (v_r 33 0), some (v_i a1), some (v_i a2), some (v_i a3), some (v_i a4), some (v_i a5)] [] μ = if a5 < 8 then (if a4 = 0 then (if a4 = 0 then (kd d 84 1 [some (v_r 33 0), some (v_i a1), some (v_i a2), some (v_i (mj_w (a3 + 1))), none, none] [] μ) else (some (some (v_i a3), μ))) else (if 0 ≤ (mj_w ((mj_w (8 * a3)) + a5)) ∧ (mj_w ((mj_w (8 * a3)) + a5)) < 96 then (if (mj_w (a1 + a5)) < a2 then (if 0 ≤ (mj_w (a1 + a5)) ∧ (mj_w (a1 + a5)) < 160 then (kd d 84 6 [some (v_r 33 0), some (v_i a1), some (v_i a2), some (v_i a3), some (v_i a4), some (v_i a5)] [v_i (μ 40 0 ((mj_w (a1 + a5)).toNat)), v_i (μ 49 0 ((mj_w ((mj_w (8 * a3)) + a5)).toNat))] μ) else (none)) else (kd d 84 6 [some (v_r 33 0), some (v_i a1), some (v_i a2), some (v_i a3), none, some (v_i a5)] [v_i 32, v_i (μ 49 0 ((mj_w ((mj_w (8 * a3)) + a5)).toNat))] μ)) else (none))) else (if a4 = 0 then (kd d 84 1 [some (v_r 33 0), some (v_i a1), some (v_i a2), some (v_i (mj_w (a3 + 1))), none, none] [] μ) else (some (some (v_i a3), μ))) := (kd_unf [1, 4, 6] 40).trans rfl
set_option maxRecDepth 20000 in
theorem ke84_6 (d : Nat) (a1 : Int) (a2 : Int) (a3 : Int) (o4 : Option mj_V) (a5 : Int) (s0 : Int) (s1 : Int) (μ : mj_M) : kd d 84 6 [some (v_r 33 0), some (v_i a1), some (v_i a2), some (v_i a3), o4, some (v_i a5)] [v_i s0, v_i s1] μ = if s1 = s0 then (kd d 84 4 [some (v_r 33 0), some (v_i a1), some (v_i a2), some (v_i a3), some (v_i 1), some (v_i (mj_w (a5 + 1)))] [] μ) else (kd d 84 4 [some (v_r 33 0), some (v_i a1), some (v_i a2), some (v_i a3), some (v_i 0), some (v_i (mj_w (a5 + 1)))] [] μ) := (kd_unf [1, 4, 6] 40).trans rfl
-- 85 NumbersCalledModel.next()V
set_option maxRecDepth 20000 in
theorem ke85_0 (d : Nat) (o1 : Option mj_V) (o2 : Option mj_V) (μ : mj_M) : kd d 85 0 [some (v_r 33 0), o1, o2] [] μ = if (μ 33 0 30) < (μ 33 0 12) then (if 0 ≤ (μ 33 0 30) ∧ (μ 33 0 30) < 160 then (if (μ 40 0 ((μ 33 0 30).toNat)) = 32 then (kd d 85 0 [some (v_r 33 0), none, none] [] (mj_up μ 33 0 30 (mj_w ((μ 33 0 30) + 1)))) else (if 0 ≤ (μ 33 0 30) ∧ (μ 33 0 30) < 160 then (if (μ 40 0 ((μ 33 0 30).toNat)) = 10 then (kd d 85 0 [some (v_r 33 0), none, none] [] (mj_up μ 33 0 30 (mj_w ((μ 33 0 30) + 1)))) else (kd d 85 2 [some (v_r 33 0), none, none] [] μ)) else (none))) else (none)) else (kd d 85 2 [some (v_r 33 0), none, none] [] μ) := (kd_unf [0, 2, 4, 5, 9, 13, 22] 40).trans rfl
set_option maxRecDepth 20000 in
theorem ke85_2 (d : Nat) (o1 : Option mj_V) (o2 : Option mj_V) (μ : mj_M) : kd d 85 2 [some (v_r 33 0), o1, o2] [] μ = if (μ 33 0 30) = (μ 33 0 12) then (some (none, mj_up (mj_up (mj_up μ 33 0 31 (μ 33 0 30)) 33 0 32 0) 33 0 33 0)) else (if 0 ≤ (μ 33 0 30) ∧ (μ 33 0 30) < 160 then (mj_rI (kc d 72 [v_i (μ 40 0 ((μ 33 0 30).toNat)), v_i 97, v_i 122] (mj_up (mj_up (mj_up μ 33 0 31 (μ 33 0 30)) 33 0 32 0) 33 0 33 0)) fun x1 m2 => if x1 = 0 then (mj_rI (kc d 72 [v_i (μ 40 0 ((μ 33 0 30).toNat)), v_i 48, v_i 57] m2) fun x3 m4 => if x3 = 0 then (if (μ 40 0 ((μ 33 0 30).toNat)) = 40 then (kd d 85 22 [some (v_r 33 0), some (v_i (μ 40 0 ((μ 33 0 30).toNat))), none] [v_i 1] m4) else (if (μ 40 0 ((μ 33 0 30).toNat)) = 41 then (kd d 85 22 [some (v_r 33 0), some (v_i (μ 40 0 ((μ 33 0 30).toNat))), none] [v_i 1] m4) else (if (μ 40 0 ((μ 33 0 30).toNat)) = 59 then (kd d 85 22 [some (v_r 33 0), some (v_i (μ 40 0 ((μ 33 0 30).toNat))), none] [v_i 1] m4) else (if (μ 40 0 ((μ 33 0 30).toNat)) = 43 then (kd d 85 22 [some (v_r 33 0), some (v_i (μ 40 0 ((μ 33 0 30).toNat))), none] [v_i 1] m4) else (if (μ 40 0 ((μ 33 0 30).toNat)) = 45 then (kd d 85 22 [some (v_r 33 0), some (v_i (μ 40 0 ((μ 33 0 30).toNat))), none] [v_i 1] m4) else (if (μ 40 0 ((μ 33 0 30).toNat)) = 42 then (kd d 85 22 [some (v_r 33 0), some (v_i (μ 40 0 ((μ 33 0 30).toNat))), none] [v_i 1] m4) else (if (μ 40 0 ((μ 33 0 30).toNat)) = 60 then (kd d 85 22 [some (v_r 33 0), some (v_i (μ 40 0 ((μ 33 0 30).toNat))), none] [v_i 1] m4) else (if (μ 40 0 ((μ 33 0 30).toNat)) = 61 then (kd d 85 22 [some (v_r 33 0), some (v_i (μ 40 0 ((μ 33 0 30).toNat))), none] [v_i 1] m4) else (kd d 85 22 [some (v_r 33 0), some (v_i (μ 40 0 ((μ 33 0 30).toNat))), none] [v_i 0] m4))))))))) else (kd d 85 13 [some (v_r 33 0), some (v_i (μ 40 0 ((μ 33 0 30).toNat))), some (v_i 0)] [] m4)) else (kd d 85 4 [some (v_r 33 0), some (v_i (μ 40 0 ((μ 33 0 30).toNat))), none] [] m2)) else (none)) := (kd_unf [0, 2, 4, 5, 9, 13, 22] 40).trans rfl
set_option maxRecDepth 20000 in
theorem ke85_4 (d : Nat) (o1 : Option mj_V) (o2 : Option mj_V) (μ : mj_M) : kd d 85 4 [some (v_r 33 0), o1, o2] [] μ = if (μ 33 0 30) < (μ 33 0 12) then (if 0 ≤ (μ 33 0 30) ∧ (μ 33 0 30) < 160 then (mj_rI (kc d 72 [v_i (μ 40 0 ((μ 33 0 30).toNat)), v_i 97, v_i 122] μ) fun x1 m2 => if x1 = 0 then (kd d 85 5 [some (v_r 33 0), none, none] [] m2) else (kd d 85 4 [some (v_r 33 0), none, none] [] (mj_up m2 33 0 30 (mj_w ((m2 33 0 30) + 1))))) else (none)) else (kd d 85 5 [some (v_r 33 0), none, none] [] μ) := (kd_unf [0, 2, 4, 5, 9, 13, 22] 40).trans rfl
set_option maxRecDepth 20000 in
theorem ke85_5 (d : Nat) (o1 : Option mj_V) (o2 : Option mj_V) (μ : mj_M) : kd d 85 5 [some (v_r 33 0), o1, o2] [] μ = mj_rI (kc d 84 [v_r 33 0, v_i (μ 33 0 31), v_i (μ 33 0 30)] μ) fun x1 m2 => if x1 < 3 then (kd d 85 9 [some (v_r 33 0), none, some (v_i x1)] [v_i 3, v_r 33 0] m2) else (if x1 < 9 then (kd d 85 9 [some (v_r 33 0), none, some (v_i x1)] [v_i 2, v_r 33 0] m2) else (if x1 = 12 then (kd d 85 9 [some (v_r 33 0), none, some (v_i x1)] [v_i (-1), v_r 33 0] m2) else (kd d 85 9 [some (v_r 33 0), none, some (v_i x1)] [v_i (mj_w ((mj_w (4 + x1)) - 9)), v_r 33 0] m2))) := (kd_unf [0, 2, 4, 5, 9, 13, 22] 40).trans rfl
set_option maxRecDepth 20000 in
theorem ke85_9 (d : Nat) (o1 : Option mj_V) (a2 : Int) (s0 : Int) (μ : mj_M) : kd d 85 9 [some (v_r 33 0), o1, some (v_i a2)] [v_i s0, v_r 33 0] μ = if a2 < 3 then (some (none, mj_up (mj_up μ 33 0 32 s0) 33 0 33 a2)) else (some (none, mj_up (mj_up μ 33 0 32 s0) 33 0 33 (mj_w (a2 - 3)))) := (kd_unf [0, 2, 4, 5, 9, 13, 22] 40).trans rfl
set_option maxRecDepth 20000 in
theorem ke85_13 (d : Nat) (o1 : Option mj_V) (a2 : Int) (μ : mj_M) : kd d 85 13 [some (v_r 33 0), o1, some (v_i a2)] [] μ = if (μ 33 0 30) < (μ 33 0 12) then (if 0 ≤ (μ 33 0 30) ∧ (μ 33 0 30) < 160 then (mj_rI (kc d 72 [v_i (μ 40 0 ((μ 33 0 30).toNat)), v_i 48, v_i 57] μ) fun x1 m2 => if x1 = 0 then (if 4 < a2 then (some (none, mj_up m2 33 0 32 (-1))) else (some (none, mj_up m2 33 0 32 1))) else (if a2 < 4 then (if 0 ≤ (m2 33 0 30) ∧ (m2 33 0 30) < 160 then (kd d 85 13 [some (v_r 33 0), none, some (v_i (mj_w (a2 + 1)))] [] (mj_up (mj_up m2 33 0 33 (mj_w ((mj_w ((mj_w (10 * (m2 33 0 33))) + (m2 40 0 ((m2 33 0 30).toNat)))) - 48))) 33 0 30 (mj_w ((m2 33 0 30) + 1)))) else (none)) else (kd d 85 13 [some (v_r 33 0), none, some (v_i (mj_w (a2 + 1)))] [] (mj_up (mj_up m2 33 0 33 0) 33 0 30 (mj_w ((m2 33 0 30) + 1)))))) else (none)) else (if 4 < a2 then (some (none, mj_up μ 33 0 32 (-1))) else (some (none, mj_up μ 33 0 32 1))) := (kd_unf [0, 2, 4, 5, 9, 13, 22] 40).trans rfl
set_option maxRecDepth 20000 in
theorem ke85_22 (d : Nat) (a1 : Int) (o2 : Option mj_V) (s0 : Int) (μ : mj_M) : kd d 85 22 [some (v_r 33 0), some (v_i a1), o2] [v_i s0] μ = if s0 = 0 then (some (none, mj_up (mj_up μ 33 0 32 (-1)) 33 0 30 (mj_w ((μ 33 0 30) + 1)))) else (some (none, mj_up (mj_up μ 33 0 32 a1) 33 0 30 (mj_w ((μ 33 0 30) + 1)))) := (kd_unf [0, 2, 4, 5, 9, 13, 22] 40).trans rfl
-- 86 NumbersCalledModel.rank(I)I
set_option maxRecDepth 20000 in
theorem ke86_0 (d : Nat) (p0 : Int) (μ : mj_M) : kc (d + 1) 86 [v_i p0] μ = if p0 = 0 then (some (some (v_i 0), μ)) else (if p0 = 11 then (some (some (v_i 1), μ)) else (if p0 = 12 then (some (some (v_i 2), μ)) else (if p0 = 13 then (some (some (v_i 3), μ)) else (if 15 < p0 then (if 17 < p0 then (if p0 = 18 then (some (some (v_i 6), μ)) else (some (some (v_i 7), μ))) else (some (some (v_i 5), μ))) else (some (some (v_i 4), μ)))))) := (kd_unf [] 40).trans rfl
-- 87 NumbersCalledModel.puts(I)V
set_option maxRecDepth 20000 in
theorem ke87_0 (d : Nat) (p1 : Int) (μ : mj_M) : kc (d + 1) 87 [v_r 33 0, v_i p1] μ = if 0 ≤ (mj_w ((mj_w (200 * (μ 33 0 15))) + (μ 33 0 38))) ∧ (mj_w ((mj_w (200 * (μ 33 0 15))) + (μ 33 0 38))) < 1200 then (some (none, mj_up (mj_up μ 41 0 ((mj_w ((mj_w (200 * (μ 33 0 15))) + (μ 33 0 38))).toNat) p1) 33 0 38 (mj_w ((μ 33 0 38) + 1)))) else (none) := (kd_unf [] 40).trans rfl
-- 88 NumbersCalledModel.unwinds(I)V
set_option maxRecDepth 20000 in
theorem ke88_0 (d : Nat) (a1 : Int) (o2 : Option mj_V) (μ : mj_M) : kd d 88 0 [some (v_r 33 0), some (v_i a1), o2] [] μ = if 0 < (μ 33 0 36) then (if 0 ≤ (mj_w ((μ 33 0 36) - 1)) ∧ (mj_w ((μ 33 0 36) - 1)) < 200 then (mj_rI (kc d 86 [v_i (μ 50 0 ((mj_w ((μ 33 0 36) - 1)).toNat))] μ) fun x1 m2 => if x1 < a1 then (some (none, m2)) else (if 0 ≤ (mj_w ((m2 33 0 36) - 1)) ∧ (mj_w ((m2 33 0 36) - 1)) < 200 then (if (m2 50 0 ((mj_w ((m2 33 0 36) - 1)).toNat)) = 13 then (mj_rV (kc d 87 [v_r 33 0, v_i (m2 50 0 ((mj_w ((m2 33 0 36) - 1)).toNat))] (mj_up (mj_up m2 33 0 36 (mj_w ((m2 33 0 36) - 1))) 33 0 37 (mj_w ((m2 33 0 37) - 1)))) fun m3 => kd d 88 0 [some (v_r 33 0), some (v_i a1), some (v_i (m2 50 0 ((mj_w ((m2 33 0 36) - 1)).toNat)))] [] m3) else (if (m2 50 0 ((mj_w ((m2 33 0 36) - 1)).toNat)) = 19 then (mj_rV (kc d 87 [v_r 33 0, v_i (m2 50 0 ((mj_w ((m2 33 0 36) - 1)).toNat))] (mj_up (mj_up m2 33 0 36 (mj_w ((m2 33 0 36) - 1))) 33 0 37 (mj_w ((m2 33 0 37) - 1)))) fun m5 => kd d 88 0 [some (v_r 33 0), some (v_i a1), some (v_i (m2 50 0 ((mj_w ((m2 33 0 36) - 1)).toNat)))] [] m5) else (mj_rV (kc d 87 [v_r 33 0, v_i (m2 50 0 ((mj_w ((m2 33 0 36) - 1)).toNat))] (mj_up (mj_up m2 33 0 36 (mj_w ((m2 33 0 36) - 1))) 33 0 37 (mj_w ((m2 33 0 37) - 0)))) fun m4 => kd d 88 0 [some (v_r 33 0), some (v_i a1), some (v_i (m2 50 0 ((mj_w ((m2 33 0 36) - 1)).toNat)))] [] m4))) else (none))) else (none)) else (some (none, μ)) := (kd_unf [0] 40).trans rfl
-- 89 NumbersCalledModel.holds(I)V
set_option maxRecDepth 20000 in
theorem ke89_0 (d : Nat) (p1 : Int) (μ : mj_M) : kc (d + 1) 89 [v_r 33 0, v_i p1] μ = if 0 ≤ (μ 33 0 36) ∧ (μ 33 0 36) < 200 then (some (none, mj_up (mj_up μ 50 0 ((μ 33 0 36).toNat) p1) 33 0 36 (mj_w ((μ 33 0 36) + 1)))) else (none) := (kd_unf [] 40).trans rfl
end
section
/-! printed by wip/whole/eqs.py: what each cut of each method comes to -/
-- 90 NumbersCalledModel.opensOne(I)Z
set_option maxRecDepth 20000 in
theorem ke90_0 (d : Nat) (p1 : Int) (μ : mj_M) : kc (d + 1) 90 [v_r 33 0, v_i p1] μ = if (μ 33 0 37) = 5 then (some (some (v_i 0), μ)) else (mj_rV (kc d 89 [v_r 33 0, v_i p1] (mj_up μ 33 0 37 (mj_w ((μ 33 0 37) + 1)))) fun m1 => some (some (v_i 1), m1)) := (kd_unf [] 40).trans rfl
-- 91 NumbersCalledModel.between(I)Z
set_option maxRecDepth 20000 in
theorem ke91_0 (d : Nat) (p1 : Int) (μ : mj_M) : kc (d + 1) 91 [v_r 33 0, v_i p1] μ = mj_rI (kc d 86 [v_i p1] μ) fun x1 m2 => if x1 = 4 then (kd d 91 2 [some (v_r 33 0), some (v_i p1)] [v_i 5, v_r 33 0] m2) else (mj_rI (kc d 86 [v_i p1] m2) fun x3 m4 => kd d 91 2 [some (v_r 33 0), some (v_i p1)] [v_i x3, v_r 33 0] m4) := (kd_unf [2] 40).trans rfl
set_option maxRecDepth 20000 in
theorem ke91_2 (d : Nat) (a1 : Int) (s0 : Int) (μ : mj_M) : kd d 91 2 [some (v_r 33 0), some (v_i a1)] [v_i s0, v_r 33 0] μ = mj_rV (kc d 88 [v_r 33 0, v_i s0] μ) fun m1 => mj_rI (kc d 86 [v_i a1] m1) fun x2 m3 => if x2 = 4 then (if 0 < (m3 33 0 36) then (if 0 ≤ (mj_w ((m3 33 0 36) - 1)) ∧ (mj_w ((m3 33 0 36) - 1)) < 200 then (mj_rI (kc d 86 [v_i (m3 50 0 ((mj_w ((m3 33 0 36) - 1)).toNat))] m3) fun x6 m7 => if x6 = 4 then (some (some (v_i 0), m7)) else (mj_rV (kc d 89 [v_r 33 0, v_i a1] m7) fun m8 => some (some (v_i 1), m8))) else (none)) else (mj_rV (kc d 89 [v_r 33 0, v_i a1] m3) fun m5 => some (some (v_i 1), m5))) else (mj_rV (kc d 89 [v_r 33 0, v_i a1] m3) fun m4 => some (some (v_i 1), m4)) := (kd_unf [2] 40).trans rfl
-- 92 NumbersCalledModel.signOf()I
set_option maxRecDepth 20000 in
theorem ke92_0 (d : Nat)  (μ : mj_M) : kc (d + 1) 92 [v_r 33 0] μ = if (μ 33 0 32) = 4 then (some (some (v_i 11), μ)) else (if (μ 33 0 32) = 5 then (some (some (v_i 12), μ)) else (if (μ 33 0 32) = 60 then (some (some (v_i 14), μ)) else (if (μ 33 0 32) = 61 then (some (some (v_i 15), μ)) else (if (μ 33 0 32) = 43 then (some (some (v_i 16), μ)) else (if (μ 33 0 32) = 45 then (some (some (v_i 17), μ)) else (if (μ 33 0 32) = 42 then (some (some (v_i 18), μ)) else (some (some (v_i (-1)), μ)))))))) := (kd_unf [] 40).trans rfl
-- 93 NumbersCalledModel.eRead()Z
set_option maxRecDepth 20000 in
theorem ke93_0 (d : Nat)  (μ : mj_M) : kc (d + 1) 93 [v_r 33 0] μ = kd d 93 1 [some (v_r 33 0), some (v_i 1), some (v_i 1), none] [] (mj_up (mj_up μ 33 0 36 0) 33 0 37 0) := (kd_unf [1, 2, 6] 40).trans rfl
set_option maxRecDepth 20000 in
theorem ke93_1 (d : Nat) (a1 : Int) (a2 : Int) (o3 : Option mj_V) (μ : mj_M) : kd d 93 1 [some (v_r 33 0), some (v_i a1), some (v_i a2), o3] [] μ = mj_rV (kc d 85 [v_r 33 0] μ) fun m1 => if a1 = 0 then (if (m1 33 0 32) = 59 then (mj_rV (kc d 88 [v_r 33 0, v_i 1] m1) fun m8 => if (m8 33 0 36) = 0 then (some (some (v_i 1), m8)) else (some (some (v_i 0), m8))) else (if (m1 33 0 32) = 41 then (mj_rV (kc d 88 [v_r 33 0, v_i 1] m1) fun m6 => if (m6 33 0 36) = 0 then (some (some (v_i 0), m6)) else (mj_rV (kc d 88 [v_r 33 0, v_i 7] (mj_up (mj_up m6 33 0 36 (mj_w ((m6 33 0 36) - 1))) 33 0 37 (mj_w ((m6 33 0 37) - 1)))) fun m7 => kd d 93 1 [some (v_r 33 0), some (v_i a1), some (v_i a2), none] [] m7)) else (mj_rI (kc d 92 [v_r 33 0] m1) fun x2 m3 => if x2 = (-1) then (some (some (v_i 0), m3)) else (mj_rI (kc d 91 [v_r 33 0, v_i x2] m3) fun x4 m5 => if x4 = 0 then (some (some (v_i 0), m5)) else (if 12 < x2 then (kd d 93 1 [some (v_r 33 0), some (v_i 1), some (v_i 0), none] [] m5) else (kd d 93 1 [some (v_r 33 0), some (v_i 1), some (v_i 1), none] [] m5)))))) else (if (m1 33 0 32) = 1 then (kd d 93 2 [some (v_r 33 0), some (v_i a1), some (v_i a2), none] [] m1) else (if (m1 33 0 32) = 2 then (kd d 93 2 [some (v_r 33 0), some (v_i a1), some (v_i a2), none] [] m1) else (if (m1 33 0 32) = 6 then (if a2 = 0 then (kd d 93 6 [some (v_r 33 0), some (v_i a1), some (v_i a2), none] [] m1) else (mj_rI (kc d 90 [v_r 33 0, v_i 13] m1) fun x9 m10 => if x9 = 0 then (some (some (v_i 0), m10)) else (kd d 93 1 [some (v_r 33 0), some (v_i a1), some (v_i a2), none] [] m10))) else (kd d 93 6 [some (v_r 33 0), some (v_i a1), some (v_i a2), none] [] m1)))) := (kd_unf [1, 2, 6] 40).trans rfl
set_option maxRecDepth 20000 in
theorem ke93_2 (d : Nat) (o1 : Option mj_V) (a2 : Int) (o3 : Option mj_V) (μ : mj_M) : kd d 93 2 [some (v_r 33 0), o1, some (v_i a2), o3] [] μ = if (μ 33 0 32) = 1 then (mj_rV (kc d 87 [v_r 33 0, v_i (mj_w (100000 + (μ 33 0 33)))] μ) fun m3 => mj_rV (kc d 88 [v_r 33 0, v_i 7] m3) fun m4 => kd d 93 1 [some (v_r 33 0), some (v_i 0), some (v_i a2), none] [] m4) else (mj_rV (kc d 87 [v_r 33 0, v_i (μ 33 0 33)] μ) fun m1 => mj_rV (kc d 88 [v_r 33 0, v_i 7] m1) fun m2 => kd d 93 1 [some (v_r 33 0), some (v_i 0), some (v_i a2), none] [] m2) := (kd_unf [1, 2, 6] 40).trans rfl
set_option maxRecDepth 20000 in
theorem ke93_6 (d : Nat) (a1 : Int) (o2 : Option mj_V) (o3 : Option mj_V) (μ : mj_M) : kd d 93 6 [some (v_r 33 0), some (v_i a1), o2, o3] [] μ = if (μ 33 0 32) = 45 then (mj_rI (kc d 90 [v_r 33 0, v_i 19] μ) fun x3 m4 => if x3 = 0 then (some (some (v_i 0), m4)) else (kd d 93 1 [some (v_r 33 0), some (v_i a1), some (v_i 0), none] [] m4)) else (if (μ 33 0 32) = 40 then (mj_rI (kc d 90 [v_r 33 0, v_i 0] μ) fun x1 m2 => if x1 = 0 then (some (some (v_i 0), m2)) else (kd d 93 1 [some (v_r 33 0), some (v_i a1), some (v_i 1), none] [] m2)) else (some (some (v_i 0), μ))) := (kd_unf [1, 2, 6] 40).trans rfl
-- 94 NumbersCalledModel.text()I
set_option maxRecDepth 20000 in
theorem ke94_0 (d : Nat)  (μ : mj_M) : kc (d + 1) 94 [v_r 33 0] μ = if (μ 33 0 15) = 6 then (some (some (v_i (-4)), μ)) else (kd d 94 2 [some (v_r 33 0), some (v_i 1), some (v_i 0)] [] (mj_up (mj_up μ 33 0 30 0) 33 0 38 0)) := (kd_unf [2, 4, 7, 10] 40).trans rfl
set_option maxRecDepth 20000 in
theorem ke94_2 (d : Nat) (a1 : Int) (a2 : Int) (μ : mj_M) : kd d 94 2 [some (v_r 33 0), some (v_i a1), some (v_i a2)] [] μ = if a2 < 3 then (if a1 = 0 then (kd d 94 7 [some (v_r 33 0), some (v_i a1), some (v_i a2)] [] μ) else (mj_rV (kc d 85 [v_r 33 0] μ) fun m1 => if (m1 33 0 32) = 3 then (if (m1 33 0 33) = a2 then (kd d 94 4 [some (v_r 33 0), some (v_i a1), some (v_i a2)] [v_i 1] m1) else (kd d 94 4 [some (v_r 33 0), none, some (v_i a2)] [v_i 0] m1)) else (kd d 94 4 [some (v_r 33 0), none, some (v_i a2)] [v_i 0] m1))) else (kd d 94 7 [some (v_r 33 0), some (v_i a1), some (v_i a2)] [] μ) := (kd_unf [2, 4, 7, 10] 40).trans rfl
set_option maxRecDepth 20000 in
theorem ke94_4 (d : Nat) (o1 : Option mj_V) (a2 : Int) (s0 : Int) (μ : mj_M) : kd d 94 4 [some (v_r 33 0), o1, some (v_i a2)] [v_i s0] μ = if 0 ≤ (mj_w ((mj_w (4 * (μ 33 0 15))) + a2)) ∧ (mj_w ((mj_w (4 * (μ 33 0 15))) + a2)) < 24 then (if s0 = 0 then (kd d 94 2 [some (v_r 33 0), some (v_i 0), some (v_i (mj_w (a2 + 1)))] [] (mj_up μ 42 0 ((mj_w ((mj_w (4 * (μ 33 0 15))) + a2)).toNat) (μ 33 0 38))) else (mj_rI (kc d 93 [v_r 33 0] (mj_up μ 42 0 ((mj_w ((mj_w (4 * (μ 33 0 15))) + a2)).toNat) (μ 33 0 38))) fun x1 m2 => if x1 = 0 then (kd d 94 2 [some (v_r 33 0), some (v_i 0), some (v_i (mj_w (a2 + 1)))] [] m2) else (kd d 94 2 [some (v_r 33 0), some (v_i 1), some (v_i (mj_w (a2 + 1)))] [] m2))) else (none) := (kd_unf [2, 4, 7, 10] 40).trans rfl
set_option maxRecDepth 20000 in
theorem ke94_7 (d : Nat) (a1 : Int) (o2 : Option mj_V) (μ : mj_M) : kd d 94 7 [some (v_r 33 0), some (v_i a1), o2] [] μ = if a1 = 0 then (kd d 94 10 [some (v_r 33 0), some (v_i a1), none] [] μ) else (mj_rV (kc d 85 [v_r 33 0] μ) fun m1 => if (m1 33 0 32) = 0 then (kd d 94 10 [some (v_r 33 0), some (v_i 1), none] [] m1) else (kd d 94 10 [some (v_r 33 0), some (v_i 0), none] [] m1)) := (kd_unf [2, 4, 7, 10] 40).trans rfl
set_option maxRecDepth 20000 in
theorem ke94_10 (d : Nat) (a1 : Int) (o2 : Option mj_V) (μ : mj_M) : kd d 94 10 [some (v_r 33 0), some (v_i a1), o2] [] μ = if 0 ≤ (mj_w ((mj_w (4 * (μ 33 0 15))) + 3)) ∧ (mj_w ((mj_w (4 * (μ 33 0 15))) + 3)) < 24 then (if a1 = 0 then (some (some (v_i (mj_w ((-100) - (μ 33 0 31)))), mj_up (mj_up μ 42 0 ((mj_w ((mj_w (4 * (μ 33 0 15))) + 3)).toNat) (μ 33 0 38)) 33 0 12 0)) else (some (some (v_i (mj_w ((mj_w ((μ 33 0 15) + 1)) - 1))), mj_up (mj_up (mj_up μ 42 0 ((mj_w ((mj_w (4 * (μ 33 0 15))) + 3)).toNat) (μ 33 0 38)) 33 0 12 0) 33 0 15 (mj_w ((μ 33 0 15) + 1))))) else (none) := (kd_unf [2, 4, 7, 10] 40).trans rfl
-- 95 NumbersCalledModel.two(III)I
set_option maxRecDepth 20000 in
theorem ke95_0 (d : Nat) (p0 : Int) (p1 : Int) (p2 : Int) (μ : mj_M) : kc (d + 1) 95 [v_i p0, v_i p1, v_i p2] μ = if p0 = 11 then (if p1 = 0 then (if p2 = 0 then (some (some (v_i 0), μ)) else (some (some (v_i 1), μ))) else (some (some (v_i 1), μ))) else if p0 = 12 then (if p1 = 0 then (some (some (v_i 0), μ)) else (if p2 = 0 then (some (some (v_i 0), μ)) else (some (some (v_i 1), μ)))) else if p0 = 13 then (some (some (v_i (mj_w (p1 * p2))), μ)) else if p0 = 14 then (if p1 < p2 then (some (some (v_i 1), μ)) else (some (some (v_i 0), μ))) else if p0 = 15 then (if p1 = p2 then (some (some (v_i 1), μ)) else (some (some (v_i 0), μ))) else if p0 = 16 then (some (some (v_i (mj_w (p1 + p2))), μ)) else if p0 = 17 then (some (some (v_i (mj_w (p1 - p2))), μ)) else (some (some (v_i (mj_w (p1 * p2))), μ)) := (kd_unf [] 40).trans rfl
-- 96 NumbersCalledModel.worth(I)I
set_option maxRecDepth 20000 in
theorem ke96_0 (d : Nat) (p1 : Int) (μ : mj_M) : kc (d + 1) 96 [v_r 33 0, v_i p1] μ = if 0 ≤ (mj_w ((mj_w (4 * (μ 33 0 16))) + p1)) ∧ (mj_w ((mj_w (4 * (μ 33 0 16))) + p1)) < 24 then (kd d 96 1 [some (v_r 33 0), some (v_i p1), some (v_i 0), some (v_i (μ 42 0 ((mj_w ((mj_w (4 * (μ 33 0 16))) + p1)).toNat))), none] [] μ) else (none) := (kd_unf [1, 2] 40).trans rfl
set_option maxRecDepth 20000 in
theorem ke96_1 (d : Nat) (a1 : Int) (a2 : Int) (a3 : Int) (o4 : Option mj_V) (μ : mj_M) : kd d 96 1 [some (v_r 33 0), some (v_i a1), some (v_i a2), some (v_i a3), o4] [] μ = if 0 ≤ (mj_w ((mj_w ((mj_w (4 * (μ 33 0 16))) + a1)) + 1)) ∧ (mj_w ((mj_w ((mj_w (4 * (μ 33 0 16))) + a1)) + 1)) < 24 then (if a3 < (μ 42 0 ((mj_w ((mj_w ((mj_w (4 * (μ 33 0 16))) + a1)) + 1)).toNat)) then (if 0 ≤ (mj_w ((mj_w (200 * (μ 33 0 16))) + a3)) ∧ (mj_w ((mj_w (200 * (μ 33 0 16))) + a3)) < 1200 then (if (μ 41 0 ((mj_w ((mj_w (200 * (μ 33 0 16))) + a3)).toNat)) < 100000 then (if (μ 41 0 ((mj_w ((mj_w (200 * (μ 33 0 16))) + a3)).toNat)) < 11 then (kd d 96 2 [some (v_r 33 0), some (v_i a1), some (v_i a2), some (v_i a3), some (v_i (μ 41 0 ((mj_w ((mj_w (200 * (μ 33 0 16))) + a3)).toNat)))] [] μ) else (if (μ 41 0 ((mj_w ((mj_w (200 * (μ 33 0 16))) + a3)).toNat)) = 13 then (if 0 ≤ (mj_w (a2 - 1)) ∧ (mj_w (a2 - 1)) < 200 then (if (μ 51 0 ((mj_w (a2 - 1)).toNat)) = 0 then (if 0 ≤ (mj_w (a2 - 1)) ∧ (mj_w (a2 - 1)) < 200 then (kd d 96 1 [some (v_r 33 0), some (v_i a1), some (v_i a2), some (v_i (mj_w (a3 + 1))), none] [] (mj_up μ 51 0 ((mj_w (a2 - 1)).toNat) 1)) else (none)) else (if 0 ≤ (mj_w (a2 - 1)) ∧ (mj_w (a2 - 1)) < 200 then (kd d 96 1 [some (v_r 33 0), some (v_i a1), some (v_i a2), some (v_i (mj_w (a3 + 1))), none] [] (mj_up μ 51 0 ((mj_w (a2 - 1)).toNat) 0)) else (none))) else (none)) else (if (μ 41 0 ((mj_w ((mj_w (200 * (μ 33 0 16))) + a3)).toNat)) = 19 then (if 0 ≤ (mj_w (a2 - 1)) ∧ (mj_w (a2 - 1)) < 200 then (if 0 ≤ (mj_w (a2 - 1)) ∧ (mj_w (a2 - 1)) < 200 then (kd d 96 1 [some (v_r 33 0), some (v_i a1), some (v_i a2), some (v_i (mj_w (a3 + 1))), none] [] (mj_up μ 51 0 ((mj_w (a2 - 1)).toNat) (mj_w (-(μ 51 0 ((mj_w (a2 - 1)).toNat)))))) else (none)) else (none)) else (if 0 ≤ (mj_w ((mj_w (a2 + (-1))) - 1)) ∧ (mj_w ((mj_w (a2 + (-1))) - 1)) < 200 then (if 0 ≤ (mj_w (a2 + (-1))) ∧ (mj_w (a2 + (-1))) < 200 then (mj_rI (kc d 95 [v_i (μ 41 0 ((mj_w ((mj_w (200 * (μ 33 0 16))) + a3)).toNat)), v_i (μ 51 0 ((mj_w ((mj_w (a2 + (-1))) - 1)).toNat)), v_i (μ 51 0 ((mj_w (a2 + (-1))).toNat))] μ) fun x1 m2 => if 0 ≤ (mj_w ((mj_w (a2 + (-1))) - 1)) ∧ (mj_w ((mj_w (a2 + (-1))) - 1)) < 200 then (kd d 96 1 [some (v_r 33 0), some (v_i a1), some (v_i (mj_w (a2 + (-1)))), some (v_i (mj_w (a3 + 1))), none] [] (mj_up m2 51 0 ((mj_w ((mj_w (a2 + (-1))) - 1)).toNat) x1)) else (none)) else (none)) else (none))))) else (kd d 96 2 [some (v_r 33 0), some (v_i a1), some (v_i a2), some (v_i a3), some (v_i (μ 41 0 ((mj_w ((mj_w (200 * (μ 33 0 16))) + a3)).toNat)))] [] μ)) else (none)) else (some (some (v_i (μ 51 0 0)), μ))) else (none) := (kd_unf [1, 2] 40).trans rfl
set_option maxRecDepth 20000 in
theorem ke96_2 (d : Nat) (a1 : Int) (a2 : Int) (a3 : Int) (a4 : Int) (μ : mj_M) : kd d 96 2 [some (v_r 33 0), some (v_i a1), some (v_i a2), some (v_i a3), some (v_i a4)] [] μ = if a4 < 11 then (if 0 ≤ a4 ∧ a4 < 6 then (if 0 ≤ a2 ∧ a2 < 200 then (kd d 96 1 [some (v_r 33 0), some (v_i a1), some (v_i (mj_w (a2 + 1))), some (v_i (mj_w (a3 + 1))), none] [] (mj_up μ 51 0 a2.toNat (μ 52 0 a4.toNat))) else (none)) else (none)) else (if 0 ≤ a2 ∧ a2 < 200 then (kd d 96 1 [some (v_r 33 0), some (v_i a1), some (v_i (mj_w (a2 + 1))), some (v_i (mj_w (a3 + 1))), none] [] (mj_up μ 51 0 a2.toNat (mj_w (a4 - 100000)))) else (none)) := (kd_unf [1, 2] 40).trans rfl
-- 97 NumbersCalledModel.force(I)I
set_option maxRecDepth 20000 in
theorem ke97_0 (d : Nat) (p1 : Int) (μ : mj_M) : kc (d + 1) 97 [v_r 33 0, v_i p1] μ = mj_rI (kc d 72 [v_i p1, v_i 0, v_i (mj_w ((μ 33 0 15) - 1))] μ) fun x1 m2 => if x1 = 0 then (some (some (v_i (-2)), m2)) else (some (some (v_i (m2 33 0 16)), mj_up m2 33 0 16 p1)) := (kd_unf [] 40).trans rfl
-- 98 NumbersCalledModel.asksOf(IIIII)I
set_option maxRecDepth 20000 in
theorem ke98_0 (d : Nat) (p1 : Int) (p2 : Int) (p3 : Int) (p4 : Int) (p5 : Int) (μ : mj_M) : kc (d + 1) 98 [v_r 33 0, v_i p1, v_i p2, v_i p3, v_i p4, v_i p5] μ = if 0 ≤ p2 ∧ p2 < 17 then (if 0 ≤ p2 ∧ p2 < 17 then (if 0 ≤ p2 ∧ p2 < 17 then (mj_rI (kc d 96 [v_r 33 0, v_i p1] (mj_up (mj_up (mj_up (mj_up (mj_up (mj_up μ 52 0 0 (μ 37 0 p2.toNat)) 52 0 1 (μ 38 0 p2.toNat)) 52 0 2 p3) 52 0 3 p4) 52 0 4 p5) 52 0 5 (μ 36 0 p2.toNat))) fun x1 m2 => if p1 = 0 then (if p1 = 0 then (mj_rI (kc d 73 [v_i x1, v_i 1, v_i 60] m2) fun x9 m10 => some (some (v_i x9), m10)) else (mj_rI (kc d 73 [v_i x1, v_i 1, v_i 999] m2) fun x7 m8 => some (some (v_i x7), m8))) else (if p1 = 0 then (mj_rI (kc d 73 [v_i x1, v_i 0, v_i 60] m2) fun x5 m6 => some (some (v_i x5), m6)) else (mj_rI (kc d 73 [v_i x1, v_i 0, v_i 999] m2) fun x3 m4 => some (some (v_i x3), m4)))) else (none)) else (none)) else (none) := (kd_unf [] 40).trans rfl
-- 99 NumbersCalledModel.pull(III)I
set_option maxRecDepth 20000 in
theorem ke99_0 (d : Nat) (p1 : Int) (p2 : Int) (p3 : Int) (μ : mj_M) : kc (d + 1) 99 [v_r 33 0, v_i p1, v_i p2, v_i p3] μ = if p2 < 0 then (kd d 99 2 [some (v_r 33 0), some (v_i p1), some (v_i p2), some (v_i p3), none] [v_i 0] μ) else (if 3 < (mj_w (p2.tdiv 1000)) then (kd d 99 2 [some (v_r 33 0), some (v_i p1), some (v_i p2), some (v_i p3), none] [v_i 0] μ) else (if 9 < (p2.tmod 1000) then (kd d 99 2 [some (v_r 33 0), some (v_i p1), some (v_i p2), some (v_i p3), none] [v_i 1] μ) else (kd d 99 2 [some (v_r 33 0), some (v_i p1), some (v_i p2), some (v_i p3), none] [v_i 0] μ))) := (kd_unf [2] 40).trans rfl
set_option maxRecDepth 20000 in
theorem ke99_2 (d : Nat) (a1 : Int) (a2 : Int) (a3 : Int) (o4 : Option mj_V) (s0 : Int) (μ : mj_M) : kd d 99 2 [some (v_r 33 0), some (v_i a1), some (v_i a2), some (v_i a3), o4] [v_i s0] μ = mj_rI (kc d 72 [v_i a1, v_i 0, v_i 5] μ) fun x1 m2 => if x1 = 0 then (some (some (v_i (-2)), m2)) else (if s0 = 0 then (some (some (v_i (-2)), m2)) else (mj_rI (kc d 72 [v_i a3, v_i 0, v_i 119] m2) fun x3 m4 => if x3 = 0 then (some (some (v_i (-2)), m4)) else (if (m4 33 0 5) = 16 then (some (some (v_i (-4)), m4)) else (mj_rV (kc d 100 [v_r 33 0, v_i a1, v_i a2, v_i a3] m4) fun m5 => some (some (v_i (mj_w ((mj_w ((m5 33 0 5) + 1)) - 1))), mj_up m5 33 0 5 (mj_w ((m5 33 0 5) + 1))))))) := (kd_unf [2] 40).trans rfl
-- 100 NumbersCalledModel.comesAs(III)V
set_option maxRecDepth 20000 in
theorem ke100_0 (d : Nat) (p1 : Int) (p2 : Int) (p3 : Int) (μ : mj_M) : kc (d + 1) 100 [v_r 33 0, v_i p1, v_i p2, v_i p3] μ = if 0 ≤ (μ 33 0 5) ∧ (μ 33 0 5) < 17 then (if 0 ≤ (μ 33 0 5) ∧ (μ 33 0 5) < 17 then (if 0 ≤ (μ 33 0 5) ∧ (μ 33 0 5) < 17 then (if 0 ≤ (μ 33 0 5) ∧ (μ 33 0 5) < 17 then (if 0 ≤ (μ 33 0 5) ∧ (μ 33 0 5) < 17 then (some (none, mj_up (mj_up (mj_up (mj_up (mj_up μ 35 0 ((μ 33 0 5).toNat) p1) 36 0 ((μ 33 0 5).toNat) (mj_w (p2.tdiv 1000))) 37 0 ((μ 33 0 5).toNat) ((mj_w (p2.tdiv 10)).tmod 100)) 38 0 ((μ 33 0 5).toNat) (p2.tmod 10)) 39 0 ((μ 33 0 5).toNat) p3)) else (none)) else (none)) else (none)) else (none)) else (none) := (kd_unf [] 40).trans rfl
-- 101 NumbersCalledModel.move(II)I
set_option maxRecDepth 20000 in
theorem ke101_0 (d : Nat) (p1 : Int) (p2 : Int) (μ : mj_M) : kc (d + 1) 101 [v_r 33 0, v_i p1, v_i p2] μ = mj_rI (kc d 75 [v_r 33 0, v_i p1] μ) fun x1 m2 => if x1 = 0 then (some (some (v_i (-5)), m2)) else (mj_rI (kc d 72 [v_i p2, v_i 0, v_i 119] m2) fun x3 m4 => if x3 = 0 then (some (some (v_i (-7)), m4)) else (if 0 ≤ p1 ∧ p1 < 17 then (if 0 ≤ p1 ∧ p1 < 17 then (some (some (v_i (m4 39 0 p1.toNat)), mj_up m4 39 0 p1.toNat p2)) else (none)) else (none))) := (kd_unf [] 40).trans rfl
-- 102 NumbersCalledModel.forget()I
set_option maxRecDepth 20000 in
theorem ke102_0 (d : Nat)  (μ : mj_M) : kc (d + 1) 102 [v_r 33 0] μ = if (μ 33 0 5) = 0 then (some (some (v_i (-3)), μ)) else (if (μ 33 0 17) = 0 then (some (some (v_i (mj_w ((μ 33 0 5) - 1))), mj_up (mj_up μ 33 0 5 (mj_w ((μ 33 0 5) - 1))) 33 0 17 0)) else (if (mj_w ((μ 33 0 5) - 1)) < (μ 33 0 22) then (some (some (v_i (mj_w ((μ 33 0 5) - 1))), mj_up (mj_up μ 33 0 5 (mj_w ((μ 33 0 5) - 1))) 33 0 17 0)) else (some (some (v_i (mj_w ((μ 33 0 5) - 1))), mj_up (mj_up μ 33 0 5 (mj_w ((μ 33 0 5) - 1))) 33 0 17 1)))) := (kd_unf [] 40).trans rfl
-- 103 NumbersCalledModel.needs(I)I
set_option maxRecDepth 20000 in
theorem ke103_0 (d : Nat) (p1 : Int) (μ : mj_M) : kc (d + 1) 103 [v_r 33 0, v_i p1] μ = if 0 ≤ p1 ∧ p1 < 17 then (if (μ 35 0 p1.toNat) = 2 then (if 0 ≤ p1 ∧ p1 < 17 then (some (some (v_i ((mj_w ((μ 36 0 p1.toNat) + 1)).tmod 4)), μ)) else (none)) else (if 0 ≤ p1 ∧ p1 < 17 then (some (some (v_i (μ 36 0 p1.toNat)), μ)) else (none))) else (none) := (kd_unf [] 40).trans rfl
-- 104 NumbersCalledModel.told(II)I
set_option maxRecDepth 20000 in
theorem ke104_0 (d : Nat) (p1 : Int) (p2 : Int) (μ : mj_M) : kc (d + 1) 104 [v_r 33 0, v_i p1, v_i p2] μ = mj_rI (kc d 75 [v_r 33 0, v_i p1] μ) fun x1 m2 => if x1 = 0 then (some (some (v_i (-5)), m2)) else (if p2 = 0 then (if 0 ≤ p1 ∧ p1 < 17 then (some (some (v_i (m2 35 0 p1.toNat)), m2)) else (none)) else if p2 = 1 then (if 0 ≤ p1 ∧ p1 < 17 then (some (some (v_i (m2 36 0 p1.toNat)), m2)) else (none)) else if p2 = 2 then (if 0 ≤ p1 ∧ p1 < 17 then (some (some (v_i (m2 37 0 p1.toNat)), m2)) else (none)) else if p2 = 3 then (if 0 ≤ p1 ∧ p1 < 17 then (some (some (v_i (m2 38 0 p1.toNat)), m2)) else (none)) else if p2 = 4 then (if 0 ≤ p1 ∧ p1 < 17 then (some (some (v_i (m2 39 0 p1.toNat)), m2)) else (none)) else if p2 = 5 then (mj_rI (kc d 103 [v_r 33 0, v_i p1] m2) fun x3 m4 => some (some (v_i x3), m4)) else (some (some (v_i (-7)), m2))) := (kd_unf [] 40).trans rfl
-- 105 NumbersCalledModel.takesOf(III)I
set_option maxRecDepth 20000 in
theorem ke105_0 (d : Nat) (p1 : Int) (p2 : Int) (p3 : Int) (μ : mj_M) : kc (d + 1) 105 [v_r 33 0, v_i p1, v_i p2, v_i p3] μ = if 0 ≤ (mj_w ((mj_w (3 * p2)) + 1)) ∧ (mj_w ((mj_w (3 * p2)) + 1)) < 12 then (mj_rI (kc d 98 [v_r 33 0, v_i 0, v_i p1, v_i (μ 34 0 ((mj_w ((mj_w (3 * p2)) + 1)).toNat)), v_i p3, v_i 0] μ) fun x1 m2 => if 0 ≤ p1 ∧ p1 < 17 then (if (m2 35 0 p1.toNat) = 3 then (if (m2 33 0 41) = 0 then (mj_rI (kc d 73 [v_i (mj_w (2 * x1)), v_i 1, v_i 60] m2) fun x3 m4 => some (some (v_i x3), m4)) else (some (some (v_i x1), m2))) else (some (some (v_i x1), m2))) else (none)) else (none) := (kd_unf [] 40).trans rfl
-- 106 NumbersCalledModel.isThere(II)Z
set_option maxRecDepth 20000 in
theorem ke106_0 (d : Nat) (p1 : Int) (p2 : Int) (μ : mj_M) : kc (d + 1) 106 [v_r 33 0, v_i p1, v_i p2] μ = if 0 ≤ p1 ∧ p1 < 17 then (if (μ 35 0 p1.toNat) = 5 then (if p2 < 30 then (kd d 106 1 [some (v_r 33 0), some (v_i p1), some (v_i p2), none] [] μ) else (some (some (v_i 1), μ))) else (kd d 106 1 [some (v_r 33 0), some (v_i p1), some (v_i p2), none] [] μ)) else (none) := (kd_unf [1, 2, 4] 40).trans rfl
set_option maxRecDepth 20000 in
theorem ke106_1 (d : Nat) (a1 : Int) (a2 : Int) (o3 : Option mj_V) (μ : mj_M) : kd d 106 1 [some (v_r 33 0), some (v_i a1), some (v_i a2), o3] [] μ = if 0 ≤ a1 ∧ a1 < 17 then (if (μ 35 0 a1.toNat) = 1 then (kd d 106 2 [some (v_r 33 0), some (v_i a1), some (v_i a2), none] [] μ) else (if 0 ≤ a1 ∧ a1 < 17 then (if (μ 35 0 a1.toNat) = 5 then (kd d 106 2 [some (v_r 33 0), some (v_i a1), some (v_i a2), none] [] μ) else (kd d 106 4 [some (v_r 33 0), some (v_i a1), some (v_i a2), none] [v_i 0] μ)) else (none))) else (none) := (kd_unf [1, 2, 4] 40).trans rfl
set_option maxRecDepth 20000 in
theorem ke106_2 (d : Nat) (a1 : Int) (a2 : Int) (o3 : Option mj_V) (μ : mj_M) : kd d 106 2 [some (v_r 33 0), some (v_i a1), some (v_i a2), o3] [] μ = if 0 ≤ a1 ∧ a1 < 17 then (if (mj_w ((μ 38 0 a1.toNat) + 2)) = 0 then (none) else (if ((mj_w (a2.tdiv (mj_w ((μ 38 0 a1.toNat) + 2)))).tmod 2) = 1 then (kd d 106 4 [some (v_r 33 0), some (v_i a1), some (v_i a2), none] [v_i 1] μ) else (kd d 106 4 [some (v_r 33 0), some (v_i a1), some (v_i a2), none] [v_i 0] μ))) else (none) := (kd_unf [1, 2, 4] 40).trans rfl
set_option maxRecDepth 20000 in
theorem ke106_4 (d : Nat) (a1 : Int) (a2 : Int) (o3 : Option mj_V) (s0 : Int) (μ : mj_M) : kd d 106 4 [some (v_r 33 0), some (v_i a1), some (v_i a2), o3] [v_i s0] μ = if s0 = 0 then (mj_rI (kc d 98 [v_r 33 0, v_i 1, v_i a1, v_i 0, v_i a2, v_i 0] μ) fun x1 m2 => if x1 < a2 then (some (some (v_i 0), m2)) else (some (some (v_i 1), m2))) else (some (some (v_i 0), μ)) := (kd_unf [1, 2, 4] 40).trans rfl
-- 107 NumbersCalledModel.asks(IIIII)I
set_option maxRecDepth 20000 in
theorem ke107_0 (d : Nat) (p1 : Int) (p2 : Int) (p3 : Int) (p4 : Int) (p5 : Int) (μ : mj_M) : kc (d + 1) 107 [v_r 33 0, v_i p1, v_i p2, v_i p3, v_i p4, v_i p5] μ = mj_rI (kc d 75 [v_r 33 0, v_i p1] μ) fun x1 m2 => if x1 = 0 then (some (some (v_i (-5)), m2)) else (mj_rI (kc d 74 [v_r 33 0, v_i p2] m2) fun x3 m4 => if x3 = 0 then (some (some (v_i (-5)), m4)) else (mj_rI (kc d 72 [v_i p3, v_i 0, v_i 999] m4) fun x5 m6 => if x5 = 0 then (some (some (v_i (-7)), m6)) else (mj_rI (kc d 72 [v_i p4, v_i 0, v_i 999] m6) fun x7 m8 => if x7 = 0 then (some (some (v_i (-7)), m8)) else (mj_rI (kc d 72 [v_i p5, v_i 0, v_i 2] m8) fun x9 m10 => if x9 = 0 then (some (some (v_i (-7)), m10)) else (if p5 = 0 then (mj_rI (kc d 105 [v_r 33 0, v_i p1, v_i p2, v_i p3] m10) fun x15 m16 => some (some (v_i x15), m16)) else (if p5 = 1 then (mj_rI (kc d 106 [v_r 33 0, v_i p1, v_i p3] m10) fun x13 m14 => if x13 = 0 then (some (some (v_i 0), m14)) else (some (some (v_i 1), m14))) else (mj_rI (kc d 98 [v_r 33 0, v_i 2, v_i p1, v_i 0, v_i p3, v_i p4] m10) fun x11 m12 => some (some (v_i x11), m12)))))))) := (kd_unf [] 40).trans rfl
-- 108 NumbersCalledModel.isAhead(II)Z
set_option maxRecDepth 20000 in
theorem ke108_0 (d : Nat) (p1 : Int) (p2 : Int) (μ : mj_M) : kc (d + 1) 108 [v_r 33 0, v_i p1, v_i p2] μ = if (μ 33 0 2) = 1 then (if 0 ≤ p1 ∧ p1 < 17 then (if (μ 35 0 p1.toNat) = 4 then (kd d 108 6 [some (v_r 33 0), some (v_i p1), some (v_i p2), none, none] [v_i 0] μ) else (kd d 108 6 [some (v_r 33 0), some (v_i p1), some (v_i p2), none, none] [v_i 1] μ)) else (none)) else (if (μ 33 0 2) = 2 then (if 0 ≤ p1 ∧ p1 < 17 then (kd d 108 6 [some (v_r 33 0), some (v_i p1), some (v_i p2), none, none] [v_i (μ 37 0 p1.toNat)] μ) else (none)) else (if (μ 33 0 2) = 3 then (if 0 ≤ p1 ∧ p1 < 17 then (if (μ 35 0 p1.toNat) = 3 then (kd d 108 6 [some (v_r 33 0), some (v_i p1), some (v_i p2), none, none] [v_i 0] μ) else (kd d 108 6 [some (v_r 33 0), some (v_i p1), some (v_i p2), none, none] [v_i 1] μ)) else (none)) else (kd d 108 6 [some (v_r 33 0), some (v_i p1), some (v_i p2), none, none] [v_i 0] μ))) := (kd_unf [6, 12] 40).trans rfl
set_option maxRecDepth 20000 in
theorem ke108_6 (d : Nat) (a1 : Int) (a2 : Int) (o3 : Option mj_V) (o4 : Option mj_V) (s0 : Int) (μ : mj_M) : kd d 108 6 [some (v_r 33 0), some (v_i a1), some (v_i a2), o3, o4] [v_i s0] μ = if (μ 33 0 2) = 1 then (if 0 ≤ a2 ∧ a2 < 17 then (if (μ 35 0 a2.toNat) = 4 then (kd d 108 12 [some (v_r 33 0), some (v_i a1), some (v_i a2), some (v_i s0), none] [v_i 0] μ) else (kd d 108 12 [some (v_r 33 0), some (v_i a1), some (v_i a2), some (v_i s0), none] [v_i 1] μ)) else (none)) else (if (μ 33 0 2) = 2 then (if 0 ≤ a2 ∧ a2 < 17 then (kd d 108 12 [some (v_r 33 0), some (v_i a1), some (v_i a2), some (v_i s0), none] [v_i (μ 37 0 a2.toNat)] μ) else (none)) else (if (μ 33 0 2) = 3 then (if 0 ≤ a2 ∧ a2 < 17 then (if (μ 35 0 a2.toNat) = 3 then (kd d 108 12 [some (v_r 33 0), some (v_i a1), some (v_i a2), some (v_i s0), none] [v_i 0] μ) else (kd d 108 12 [some (v_r 33 0), some (v_i a1), some (v_i a2), some (v_i s0), none] [v_i 1] μ)) else (none)) else (kd d 108 12 [some (v_r 33 0), some (v_i a1), some (v_i a2), some (v_i s0), none] [v_i 0] μ))) := (kd_unf [6, 12] 40).trans rfl
set_option maxRecDepth 20000 in
theorem ke108_12 (d : Nat) (a1 : Int) (a2 : Int) (a3 : Int) (o4 : Option mj_V) (s0 : Int) (μ : mj_M) : kd d 108 12 [some (v_r 33 0), some (v_i a1), some (v_i a2), some (v_i a3), o4] [v_i s0] μ = if a3 = s0 then (if 0 ≤ a1 ∧ a1 < 17 then (if 0 ≤ a2 ∧ a2 < 17 then (if (μ 39 0 a1.toNat) < (μ 39 0 a2.toNat) then (some (some (v_i 1), μ)) else (if 0 ≤ a1 ∧ a1 < 17 then (if 0 ≤ a2 ∧ a2 < 17 then (if (μ 39 0 a1.toNat) = (μ 39 0 a2.toNat) then (if a1 < a2 then (some (some (v_i 1), μ)) else (some (some (v_i 0), μ))) else (some (some (v_i 0), μ))) else (none)) else (none))) else (none)) else (none)) else (if a3 < s0 then (some (some (v_i 1), μ)) else (some (some (v_i 0), μ))) := (kd_unf [6, 12] 40).trans rfl
-- 109 NumbersCalledModel.firstFor(I)I
set_option maxRecDepth 20000 in
theorem ke109_0 (d : Nat) (p1 : Int) (μ : mj_M) : kc (d + 1) 109 [v_r 33 0, v_i p1] μ = kd d 109 1 [some (v_r 33 0), some (v_i p1), some (v_i (-1)), some (v_i 0)] [] μ := (kd_unf [1] 40).trans rfl
set_option maxRecDepth 20000 in
theorem ke109_1 (d : Nat) (a1 : Int) (a2 : Int) (a3 : Int) (μ : mj_M) : kd d 109 1 [some (v_r 33 0), some (v_i a1), some (v_i a2), some (v_i a3)] [] μ = if a3 < (μ 33 0 5) then (if 0 ≤ a3 ∧ a3 < 17 then (if (μ 53 0 a3.toNat) = 1 then (if 0 ≤ (mj_w (3 * a1)) ∧ (mj_w (3 * a1)) < 12 then (if 0 ≤ a3 ∧ a3 < 17 then (if (0 : Int) ≤ (μ 54 0 a3.toNat) ∧ (μ 54 0 a3.toNat) < (32 : Int) then (if (0 : Int) ≤ ((μ 34 0 ((mj_w (3 * a1)).toNat)) / 2 ^ (μ 54 0 a3.toNat).toNat) ∧ (0 : Int) ≤ 1 then (if ((((μ 34 0 ((mj_w (3 * a1)).toNat)) / 2 ^ (μ 54 0 a3.toNat).toNat).toNat &&& 1 : Nat) : Int) = 1 then (if a2 = (-1) then (kd d 109 1 [some (v_r 33 0), some (v_i a1), some (v_i a3), some (v_i (mj_w (a3 + 1)))] [] μ) else (mj_rI (kc d 108 [v_r 33 0, v_i a3, v_i a2] μ) fun x1 m2 => if x1 = 0 then (kd d 109 1 [some (v_r 33 0), some (v_i a1), some (v_i a2), some (v_i (mj_w (a3 + 1)))] [] m2) else (kd d 109 1 [some (v_r 33 0), some (v_i a1), some (v_i a3), some (v_i (mj_w (a3 + 1)))] [] m2))) else (kd d 109 1 [some (v_r 33 0), some (v_i a1), some (v_i a2), some (v_i (mj_w (a3 + 1)))] [] μ)) else (none)) else (none)) else (none)) else (none)) else (kd d 109 1 [some (v_r 33 0), some (v_i a1), some (v_i a2), some (v_i (mj_w (a3 + 1)))] [] μ)) else (none)) else (some (some (v_i a2), μ)) := (kd_unf [1] 40).trans rfl
-- 110 NumbersCalledModel.callsOne(III)V
set_option maxRecDepth 20000 in
theorem ke110_0 (d : Nat) (p1 : Int) (p2 : Int) (p3 : Int) (μ : mj_M) : kc (d + 1) 110 [v_r 33 0, v_i p1, v_i p2, v_i p3] μ = if 0 ≤ p2 ∧ p2 < 17 then (if 0 ≤ p2 ∧ p2 < 17 then (if 0 ≤ p2 ∧ p2 < 17 then (mj_rI (kc d 106 [v_r 33 0, v_i p2, v_i (mj_w (p3 - (μ 39 0 p2.toNat)))] (mj_up μ 58 0 p2.toNat (mj_w ((μ 58 0 p2.toNat) + 1)))) fun x1 m2 => if x1 = 0 then (if 0 ≤ p2 ∧ p2 < 17 then (if (m2 58 0 p2.toNat) < (m2 33 0 3) then (if 0 ≤ p2 ∧ p2 < 17 then (some (none, mj_up m2 53 0 p2.toNat 1)) else (none)) else (if 0 ≤ p2 ∧ p2 < 17 then (some (none, mj_up m2 53 0 p2.toNat 3)) else (none))) else (none)) else (if 0 ≤ (mj_w (3 * p1)) ∧ (mj_w (3 * p1)) < 12 then (mj_rI (kc d 103 [v_r 33 0, v_i p2] m2) fun x3 m4 => if (0 : Int) ≤ x3 ∧ x3 < (32 : Int) then (if (0 : Int) ≤ ((m2 34 0 ((mj_w (3 * p1)).toNat)) / 2 ^ x3.toNat) ∧ (0 : Int) ≤ 1 then (if ((((m2 34 0 ((mj_w (3 * p1)).toNat)) / 2 ^ x3.toNat).toNat &&& 1 : Nat) : Int) = 0 then (mj_rI (kc d 103 [v_r 33 0, v_i p2] m4) fun x7 m8 => if 0 ≤ p2 ∧ p2 < 17 then (some (none, mj_up m8 54 0 p2.toNat x7)) else (none)) else (if 0 ≤ p2 ∧ p2 < 17 then (if 0 ≤ p2 ∧ p2 < 17 then (mj_rI (kc d 105 [v_r 33 0, v_i p2, v_i p1, v_i (mj_w (p3 - (μ 39 0 p2.toNat)))] (mj_up (mj_up m4 53 0 p2.toNat 2) 55 0 p2.toNat p3)) fun x5 m6 => if 0 ≤ p2 ∧ p2 < 17 then (if 0 ≤ p2 ∧ p2 < 17 then (if 0 ≤ p2 ∧ p2 < 17 then (if 0 ≤ p1 ∧ p1 < 4 then (some (none, mj_up (mj_up (mj_up m6 56 0 p2.toNat (mj_w (p3 + x5))) 57 0 p2.toNat p1) 59 0 p1.toNat ((mj_up m6 56 0 p2.toNat (mj_w (p3 + x5))) 56 0 p2.toNat))) else (none)) else (none)) else (none)) else (none)) else (none)) else (none))) else (none)) else (none)) else (none))) else (none)) else (none)) else (none) := (kd_unf [] 40).trans rfl
-- 111 NumbersCalledModel.minute(I)V
set_option maxRecDepth 20000 in
theorem ke111_0 (d : Nat) (p1 : Int) (μ : mj_M) : kc (d + 1) 111 [v_r 33 0, v_i p1] μ = kd d 111 1 [some (v_r 33 0), some (v_i p1), some (v_i 0), none, none, none] [] μ := (kd_unf [1, 6, 8] 40).trans rfl
set_option maxRecDepth 20000 in
theorem ke111_1 (d : Nat) (a1 : Int) (a2 : Int) (o3 : Option mj_V) (o4 : Option mj_V) (o5 : Option mj_V) (μ : mj_M) : kd d 111 1 [some (v_r 33 0), some (v_i a1), some (v_i a2), o3, o4, o5] [] μ = if a2 < (μ 33 0 5) then (if 0 ≤ a2 ∧ a2 < 17 then (if (μ 39 0 a2.toNat) = a1 then (if a1 < (μ 33 0 4) then (if 0 ≤ a2 ∧ a2 < 17 then (kd d 111 1 [some (v_r 33 0), some (v_i a1), some (v_i (mj_w (a2 + 1))), none, none, none] [] (mj_up μ 53 0 a2.toNat 1)) else (none)) else (if 0 ≤ a2 ∧ a2 < 17 then (kd d 111 1 [some (v_r 33 0), some (v_i a1), some (v_i (mj_w (a2 + 1))), none, none, none] [] (mj_up μ 53 0 a2.toNat 4)) else (none))) else (kd d 111 1 [some (v_r 33 0), some (v_i a1), some (v_i (mj_w (a2 + 1))), none, none, none] [] μ)) else (none)) else (kd d 111 6 [some (v_r 33 0), some (v_i a1), some (v_i 0), none, none, none] [] μ) := (kd_unf [1, 6, 8] 40).trans rfl
set_option maxRecDepth 20000 in
theorem ke111_6 (d : Nat) (a1 : Int) (a2 : Int) (o3 : Option mj_V) (o4 : Option mj_V) (o5 : Option mj_V) (μ : mj_M) : kd d 111 6 [some (v_r 33 0), some (v_i a1), some (v_i a2), o3, o4, o5] [] μ = if a2 < (μ 33 0 0) then (if 0 ≤ (mj_w ((mj_w (3 * a2)) + 2)) ∧ (mj_w ((mj_w (3 * a2)) + 2)) < 12 then (if (μ 34 0 ((mj_w ((mj_w (3 * a2)) + 2)).toNat)) = (-1) then (kd d 111 8 [some (v_r 33 0), some (v_i a1), some (v_i a2), none, none, none] [v_i 0] μ) else (mj_rI (kc d 72 [v_i a1, v_i (μ 34 0 ((mj_w ((mj_w (3 * a2)) + 2)).toNat)), v_i (mj_w ((μ 34 0 ((mj_w ((mj_w (3 * a2)) + 2)).toNat)) + 9))] μ) fun x1 m2 => if x1 = 0 then (kd d 111 8 [some (v_r 33 0), some (v_i a1), some (v_i a2), none, none, none] [v_i 0] m2) else (kd d 111 8 [some (v_r 33 0), some (v_i a1), some (v_i a2), some (v_i (μ 34 0 ((mj_w ((mj_w (3 * a2)) + 2)).toNat))), none, none] [v_i 1] m2))) else (none)) else (some (none, μ)) := (kd_unf [1, 6, 8] 40).trans rfl
set_option maxRecDepth 20000 in
theorem ke111_8 (d : Nat) (a1 : Int) (a2 : Int) (o3 : Option mj_V) (o4 : Option mj_V) (o5 : Option mj_V) (s0 : Int) (μ : mj_M) : kd d 111 8 [some (v_r 33 0), some (v_i a1), some (v_i a2), o3, o4, o5] [v_i s0] μ = if 0 ≤ a2 ∧ a2 < 4 then (if a1 < (μ 59 0 a2.toNat) then (kd d 111 6 [some (v_r 33 0), some (v_i a1), some (v_i (mj_w (a2 + 1))), none, none, none] [] μ) else (if s0 = 0 then (mj_rI (kc d 109 [v_r 33 0, v_i a2] μ) fun x1 m2 => if x1 = (-1) then (if 0 ≤ a2 ∧ a2 < 4 then (if 0 ≤ a2 ∧ a2 < 4 then (kd d 111 6 [some (v_r 33 0), some (v_i a1), some (v_i (mj_w (a2 + 1))), none, none, none] [] (mj_up m2 60 0 a2.toNat (mj_w ((m2 60 0 a2.toNat) + 1)))) else (none)) else (none)) else (mj_rV (kc d 110 [v_r 33 0, v_i a2, v_i x1, v_i a1] m2) fun m3 => kd d 111 6 [some (v_r 33 0), some (v_i a1), some (v_i (mj_w (a2 + 1))), none, none, none] [] m3)) else (kd d 111 6 [some (v_r 33 0), some (v_i a1), some (v_i (mj_w (a2 + 1))), none, none, none] [] μ))) else (none) := (kd_unf [1, 6, 8] 40).trans rfl
-- 112 NumbersCalledModel.lives()V
set_option maxRecDepth 20000 in
theorem ke112_0 (d : Nat)  (μ : mj_M) : kc (d + 1) 112 [v_r 33 0] μ = kd d 112 1 [some (v_r 33 0), some (v_i 0)] [] μ := (kd_unf [1, 3, 5, 7] 40).trans rfl
set_option maxRecDepth 20000 in
theorem ke112_1 (d : Nat) (a1 : Int) (μ : mj_M) : kd d 112 1 [some (v_r 33 0), some (v_i a1)] [] μ = if a1 < (μ 33 0 5) then (if 0 ≤ a1 ∧ a1 < 17 then (if (μ 33 0 50) = 0 then (if 0 ≤ a1 ∧ a1 < 17 then (kd d 112 3 [some (v_r 33 0), some (v_i a1)] [v_i (μ 36 0 a1.toNat), v_i a1, v_r 54 0] (mj_up μ 53 0 a1.toNat 0)) else (none)) else (mj_rI (kc d 103 [v_r 33 0, v_i a1] (mj_up μ 53 0 a1.toNat 0)) fun x1 m2 => kd d 112 3 [some (v_r 33 0), some (v_i a1)] [v_i x1, v_i a1, v_r 54 0] m2)) else (none)) else (kd d 112 5 [some (v_r 33 0), some (v_i 0)] [] μ) := (kd_unf [1, 3, 5, 7] 40).trans rfl
set_option maxRecDepth 20000 in
theorem ke112_3 (d : Nat) (a1 : Int) (s0 : Int) (s1 : Int) (μ : mj_M) : kd d 112 3 [some (v_r 33 0), some (v_i a1)] [v_i s0, v_i s1, v_r 54 0] μ = if 0 ≤ s1 ∧ s1 < 17 then (if 0 ≤ a1 ∧ a1 < 17 then (if 0 ≤ a1 ∧ a1 < 17 then (if 0 ≤ a1 ∧ a1 < 17 then (if 0 ≤ a1 ∧ a1 < 17 then (kd d 112 1 [some (v_r 33 0), some (v_i (mj_w (a1 + 1)))] [] (mj_up (mj_up (mj_up (mj_up (mj_up μ 54 0 s1.toNat s0) 55 0 a1.toNat (-1)) 56 0 a1.toNat (-1)) 57 0 a1.toNat (-1)) 58 0 a1.toNat 0)) else (none)) else (none)) else (none)) else (none)) else (none) := (kd_unf [1, 3, 5, 7] 40).trans rfl
set_option maxRecDepth 20000 in
theorem ke112_5 (d : Nat) (a1 : Int) (μ : mj_M) : kd d 112 5 [some (v_r 33 0), some (v_i a1)] [] μ = if a1 < 4 then (if 0 ≤ a1 ∧ a1 < 4 then (if 0 ≤ a1 ∧ a1 < 4 then (kd d 112 5 [some (v_r 33 0), some (v_i (mj_w (a1 + 1)))] [] (mj_up (mj_up μ 59 0 a1.toNat 0) 60 0 a1.toNat 0)) else (none)) else (none)) else (kd d 112 7 [some (v_r 33 0), some (v_i 0)] [] μ) := (kd_unf [1, 3, 5, 7] 40).trans rfl
set_option maxRecDepth 20000 in
theorem ke112_7 (d : Nat) (a1 : Int) (μ : mj_M) : kd d 112 7 [some (v_r 33 0), some (v_i a1)] [] μ = if a1 < 240 then (mj_rV (kc d 111 [v_r 33 0, v_i a1] μ) fun m1 => kd d 112 7 [some (v_r 33 0), some (v_i (mj_w (a1 + 1)))] [] m1) else (some (none, μ)) := (kd_unf [1, 3, 5, 7] 40).trans rfl
-- 113 NumbersCalledModel.waitOf(I)I
set_option maxRecDepth 20000 in
theorem ke113_0 (d : Nat) (p1 : Int) (μ : mj_M) : kc (d + 1) 113 [v_r 33 0, v_i p1] μ = if 0 ≤ p1 ∧ p1 < 17 then (if (μ 53 0 p1.toNat) = 2 then (if 0 ≤ p1 ∧ p1 < 17 then (if 0 ≤ p1 ∧ p1 < 17 then (some (some (v_i (mj_w ((μ 55 0 p1.toNat) - (μ 39 0 p1.toNat)))), μ)) else (none)) else (none)) else (some (some (v_i (-1)), μ))) else (none) := (kd_unf [] 40).trans rfl
-- 114 NumbersCalledModel.of(II)I
set_option maxRecDepth 20000 in
theorem ke114_0 (d : Nat) (p1 : Int) (p2 : Int) (μ : mj_M) : kc (d + 1) 114 [v_r 33 0, v_i p1, v_i p2] μ = mj_rI (kc d 75 [v_r 33 0, v_i p1] μ) fun x1 m2 => if x1 = 0 then (some (some (v_i (-5)), m2)) else (mj_rI (kc d 72 [v_i p2, v_i 0, v_i 5] m2) fun x3 m4 => if x3 = 0 then (some (some (v_i (-7)), m4)) else (mj_rV (kc d 112 [v_r 33 0] m4) fun m5 => if p2 = 0 then (if 0 ≤ p1 ∧ p1 < 17 then (some (some (v_i (m5 53 0 p1.toNat)), m5)) else (none)) else if p2 = 1 then (if 0 ≤ p1 ∧ p1 < 17 then (some (some (v_i (m5 55 0 p1.toNat)), m5)) else (none)) else if p2 = 2 then (if 0 ≤ p1 ∧ p1 < 17 then (some (some (v_i (m5 56 0 p1.toNat)), m5)) else (none)) else if p2 = 3 then (if 0 ≤ p1 ∧ p1 < 17 then (some (some (v_i (m5 57 0 p1.toNat)), m5)) else (none)) else if p2 = 4 then (mj_rI (kc d 113 [v_r 33 0, v_i p1] m5) fun x6 m7 => some (some (v_i x6), m7)) else (if 0 ≤ p1 ∧ p1 < 17 then (some (some (v_i (m5 58 0 p1.toNat)), m5)) else (none)))) := (kd_unf [] 40).trans rfl
-- 115 NumbersCalledModel.manyIn(I)I
set_option maxRecDepth 20000 in
theorem ke115_0 (d : Nat) (p1 : Int) (μ : mj_M) : kc (d + 1) 115 [v_r 33 0, v_i p1] μ = kd d 115 1 [some (v_r 33 0), some (v_i p1), some (v_i 0), some (v_i 0)] [] μ := (kd_unf [1] 40).trans rfl
set_option maxRecDepth 20000 in
theorem ke115_1 (d : Nat) (a1 : Int) (a2 : Int) (a3 : Int) (μ : mj_M) : kd d 115 1 [some (v_r 33 0), some (v_i a1), some (v_i a2), some (v_i a3)] [] μ = if a3 < (μ 33 0 5) then (if 0 ≤ a3 ∧ a3 < 17 then (if (μ 53 0 a3.toNat) = a1 then (kd d 115 1 [some (v_r 33 0), some (v_i a1), some (v_i (mj_w (a2 + 1))), some (v_i (mj_w (a3 + 1)))] [] μ) else (kd d 115 1 [some (v_r 33 0), some (v_i a1), some (v_i (mj_w (a2 + 0))), some (v_i (mj_w (a3 + 1)))] [] μ)) else (none)) else (some (some (v_i a2), μ)) := (kd_unf [1] 40).trans rfl
-- 116 NumbersCalledModel.longest()I
set_option maxRecDepth 20000 in
theorem ke116_0 (d : Nat)  (μ : mj_M) : kc (d + 1) 116 [v_r 33 0] μ = kd d 116 1 [some (v_r 33 0), some (v_i 0), some (v_i 0)] [] μ := (kd_unf [1] 40).trans rfl
set_option maxRecDepth 20000 in
theorem ke116_1 (d : Nat) (a1 : Int) (a2 : Int) (μ : mj_M) : kd d 116 1 [some (v_r 33 0), some (v_i a1), some (v_i a2)] [] μ = if a2 < (μ 33 0 5) then (mj_rI (kc d 113 [v_r 33 0, v_i a2] μ) fun x1 m2 => if a1 < x1 then (mj_rI (kc d 113 [v_r 33 0, v_i a2] m2) fun x3 m4 => kd d 116 1 [some (v_r 33 0), some (v_i x3), some (v_i (mj_w (a2 + 1)))] [] m4) else (kd d 116 1 [some (v_r 33 0), some (v_i a1), some (v_i (mj_w (a2 + 1)))] [] m2)) else (some (some (v_i a1), μ)) := (kd_unf [1] 40).trans rfl
-- 117 NumbersCalledModel.latest()I
set_option maxRecDepth 20000 in
theorem ke117_0 (d : Nat)  (μ : mj_M) : kc (d + 1) 117 [v_r 33 0] μ = kd d 117 1 [some (v_r 33 0), some (v_i 0), some (v_i 0)] [] μ := (kd_unf [1] 40).trans rfl
set_option maxRecDepth 20000 in
theorem ke117_1 (d : Nat) (a1 : Int) (a2 : Int) (μ : mj_M) : kd d 117 1 [some (v_r 33 0), some (v_i a1), some (v_i a2)] [] μ = if a2 < (μ 33 0 5) then (if 0 ≤ a2 ∧ a2 < 17 then (if a1 < (μ 56 0 a2.toNat) then (if 0 ≤ a2 ∧ a2 < 17 then (kd d 117 1 [some (v_r 33 0), some (v_i (μ 56 0 a2.toNat)), some (v_i (mj_w (a2 + 1)))] [] μ) else (none)) else (kd d 117 1 [some (v_r 33 0), some (v_i a1), some (v_i (mj_w (a2 + 1)))] [] μ)) else (none)) else (some (some (v_i a1), μ)) := (kd_unf [1] 40).trans rfl
-- 118 NumbersCalledModel.allWaits()I
set_option maxRecDepth 20000 in
theorem ke118_0 (d : Nat)  (μ : mj_M) : kc (d + 1) 118 [v_r 33 0] μ = kd d 118 1 [some (v_r 33 0), some (v_i 0), some (v_i 0)] [] μ := (kd_unf [1] 40).trans rfl
set_option maxRecDepth 20000 in
theorem ke118_1 (d : Nat) (a1 : Int) (a2 : Int) (μ : mj_M) : kd d 118 1 [some (v_r 33 0), some (v_i a1), some (v_i a2)] [] μ = if a2 < (μ 33 0 5) then (if 0 ≤ a2 ∧ a2 < 17 then (if (μ 53 0 a2.toNat) = 2 then (mj_rI (kc d 113 [v_r 33 0, v_i a2] μ) fun x1 m2 => kd d 118 1 [some (v_r 33 0), some (v_i (mj_w (a1 + x1))), some (v_i (mj_w (a2 + 1)))] [] m2) else (kd d 118 1 [some (v_r 33 0), some (v_i (mj_w (a1 + 0))), some (v_i (mj_w (a2 + 1)))] [] μ)) else (none)) else (some (some (v_i a1), μ)) := (kd_unf [1] 40).trans rfl
-- 119 NumbersCalledModel.sumOf(I)I
set_option maxRecDepth 20000 in
theorem ke119_0 (d : Nat) (p1 : Int) (μ : mj_M) : kc (d + 1) 119 [v_r 33 0, v_i p1] μ = if p1 = 0 then (mj_rI (kc d 115 [v_r 33 0, v_i 2] μ) fun x1 m2 => some (some (v_i x1), m2)) else if p1 = 1 then (mj_rI (kc d 118 [v_r 33 0] μ) fun x3 m4 => some (some (v_i x3), m4)) else if p1 = 2 then (mj_rI (kc d 116 [v_r 33 0] μ) fun x5 m6 => some (some (v_i x5), m6)) else if p1 = 3 then (mj_rI (kc d 117 [v_r 33 0] μ) fun x7 m8 => some (some (v_i x7), m8)) else if p1 = 4 then (mj_rI (kc d 115 [v_r 33 0, v_i 3] μ) fun x9 m10 => some (some (v_i x9), m10)) else if p1 = 5 then (mj_rI (kc d 115 [v_r 33 0, v_i 4] μ) fun x11 m12 => some (some (v_i x11), m12)) else if p1 = 6 then (mj_rI (kc d 115 [v_r 33 0, v_i 1] μ) fun x13 m14 => some (some (v_i x13), m14)) else (some (some (v_i (mj_w ((mj_w ((mj_w ((μ 60 0 0) + (μ 60 0 1))) + (μ 60 0 2))) + (μ 60 0 3)))), μ)) := (kd_unf [] 40).trans rfl
-- 120 NumbersCalledModel.sum(I)I
set_option maxRecDepth 20000 in
theorem ke120_0 (d : Nat) (p1 : Int) (μ : mj_M) : kc (d + 1) 120 [v_r 33 0, v_i p1] μ = mj_rI (kc d 72 [v_i p1, v_i 0, v_i 7] μ) fun x1 m2 => if x1 = 0 then (some (some (v_i (-2)), m2)) else (mj_rV (kc d 112 [v_r 33 0] m2) fun m3 => mj_rI (kc d 119 [v_r 33 0, v_i p1] m3) fun x4 m5 => some (some (v_i x4), m5)) := (kd_unf [] 40).trans rfl
-- 121 NumbersCalledModel.idle(I)I
set_option maxRecDepth 20000 in
theorem ke121_0 (d : Nat) (p1 : Int) (μ : mj_M) : kc (d + 1) 121 [v_r 33 0, v_i p1] μ = mj_rI (kc d 74 [v_r 33 0, v_i p1] μ) fun x1 m2 => if x1 = 0 then (some (some (v_i (-5)), m2)) else (mj_rV (kc d 112 [v_r 33 0] m2) fun m3 => if 0 ≤ p1 ∧ p1 < 4 then (some (some (v_i (m3 60 0 p1.toNat)), m3)) else (none)) := (kd_unf [] 40).trans rfl
-- 122 NumbersCalledModel.harmNow()I
set_option maxRecDepth 20000 in
theorem ke122_0 (d : Nat)  (μ : mj_M) : kc (d + 1) 122 [v_r 33 0] μ = mj_rV (kc d 112 [v_r 33 0] μ) fun m1 => mj_rI (kc d 118 [v_r 33 0] m1) fun x2 m3 => mj_rI (kc d 115 [v_r 33 0, v_i 2] m3) fun x4 m5 => some (some (v_i (mj_w (x2 + (mj_w (60 * (mj_w ((m3 33 0 5) - x4))))))), m5) := (kd_unf [] 40).trans rfl
-- 123 NumbersCalledModel.harmed()I
set_option maxRecDepth 20000 in
theorem ke123_0 (d : Nat)  (μ : mj_M) : kc (d + 1) 123 [v_r 33 0] μ = mj_rI (kc d 122 [v_r 33 0] μ) fun x1 m2 => some (some (v_i x1), m2) := (kd_unf [] 40).trans rfl
-- 124 NumbersCalledModel.letter(II)I
set_option maxRecDepth 20000 in
theorem ke124_0 (d : Nat) (p1 : Int) (p2 : Int) (μ : mj_M) : kc (d + 1) 124 [v_r 33 0, v_i p1, v_i p2] μ = mj_rI (kc d 74 [v_r 33 0, v_i p1] μ) fun x1 m2 => if x1 = 0 then (some (some (v_i (-5)), m2)) else (mj_rI (kc d 72 [v_i p2, v_i 0, v_i 1] m2) fun x3 m4 => if x3 = 0 then (some (some (v_i (-7)), m4)) else (if 0 ≤ (mj_w (3 * p1)) ∧ (mj_w (3 * p1)) < 12 then (mj_rI (kc d 122 [v_r 33 0] m4) fun x5 m6 => kd d 124 3 [some (v_r 33 0), some (v_i p1), some (v_i p2), some (v_i (m4 34 0 ((mj_w (3 * p1)).toNat))), some (v_i (-1)), some (v_i x5), some (v_i 0), none] [] m6) else (none))) := (kd_unf [3, 5] 40).trans rfl
set_option maxRecDepth 20000 in
theorem ke124_3 (d : Nat) (a1 : Int) (a2 : Int) (a3 : Int) (a4 : Int) (a5 : Int) (a6 : Int) (o7 : Option mj_V) (μ : mj_M) : kd d 124 3 [some (v_r 33 0), some (v_i a1), some (v_i a2), some (v_i a3), some (v_i a4), some (v_i a5), some (v_i a6), o7] [] μ = if a6 < 4 then (if (0 : Int) ≤ a6 ∧ a6 < (32 : Int) then (if (0 : Int) ≤ a3 ∧ (0 : Int) ≤ (mj_w (1 * 2 ^ a6.toNat)) then (if 0 ≤ (mj_w (3 * a1)) ∧ (mj_w (3 * a1)) < 12 then (mj_rI (kc d 122 [v_r 33 0] (mj_up μ 34 0 ((mj_w (3 * a1)).toNat) ((a3.toNat ||| (mj_w (1 * 2 ^ a6.toNat)).toNat : Nat) : Int))) fun x1 m2 => if x1 < a5 then (kd d 124 5 [some (v_r 33 0), some (v_i a1), some (v_i a2), some (v_i a3), some (v_i a4), some (v_i a5), some (v_i a6), some (v_i x1)] [v_i a6] m2) else (kd d 124 5 [some (v_r 33 0), some (v_i a1), some (v_i a2), some (v_i a3), some (v_i a4), some (v_i a5), some (v_i a6), some (v_i x1)] [v_i a4] m2)) else (none)) else (none)) else (none)) else (if 0 ≤ (mj_w (3 * a1)) ∧ (mj_w (3 * a1)) < 12 then (if a2 = 0 then (some (some (v_i a4), mj_up μ 34 0 ((mj_w (3 * a1)).toNat) a3)) else (some (some (v_i a5), mj_up μ 34 0 ((mj_w (3 * a1)).toNat) a3))) else (none)) := (kd_unf [3, 5] 40).trans rfl
set_option maxRecDepth 20000 in
theorem ke124_5 (d : Nat) (a1 : Int) (a2 : Int) (a3 : Int) (o4 : Option mj_V) (a5 : Int) (a6 : Int) (a7 : Int) (s0 : Int) (μ : mj_M) : kd d 124 5 [some (v_r 33 0), some (v_i a1), some (v_i a2), some (v_i a3), o4, some (v_i a5), some (v_i a6), some (v_i a7)] [v_i s0] μ = if a7 < a5 then (kd d 124 3 [some (v_r 33 0), some (v_i a1), some (v_i a2), some (v_i a3), some (v_i s0), some (v_i a7), some (v_i (mj_w (a6 + 1))), none] [] μ) else (kd d 124 3 [some (v_r 33 0), some (v_i a1), some (v_i a2), some (v_i a3), some (v_i s0), some (v_i a5), some (v_i (mj_w (a6 + 1))), none] [] μ) := (kd_unf [3, 5] 40).trans rfl
-- 125 NumbersCalledModel.isWell(I)Z
set_option maxRecDepth 20000 in
theorem ke125_0 (d : Nat) (p1 : Int) (μ : mj_M) : kc (d + 1) 125 [v_r 33 0, v_i p1] μ = mj_rV (kc d 112 [v_r 33 0] μ) fun m1 => mj_rI (kc d 115 [v_r 33 0, v_i 2] m1) fun x2 m3 => if x2 = (m3 33 0 5) then (mj_rI (kc d 116 [v_r 33 0] m3) fun x4 m5 => if p1 < x4 then (some (some (v_i 0), m5)) else (some (some (v_i 1), m5))) else (some (some (v_i 0), m3)) := (kd_unf [] 40).trans rfl
-- 126 NumbersCalledModel.trains(IZ)I
set_option maxRecDepth 20000 in
theorem ke126_0 (d : Nat) (p1 : Int) (p2 : Int) (μ : mj_M) : kc (d + 1) 126 [v_r 33 0, v_i p1, v_i p2] μ = kd d 126 1 [some (v_r 33 0), some (v_i p1), some (v_i p2), some (v_i 0), none, none, none, none, none] [] μ := (kd_unf [1, 4, 7] 40).trans rfl
set_option maxRecDepth 20000 in
theorem ke126_1 (d : Nat) (a1 : Int) (a2 : Int) (a3 : Int) (o4 : Option mj_V) (o5 : Option mj_V) (o6 : Option mj_V) (o7 : Option mj_V) (o8 : Option mj_V) (μ : mj_M) : kd d 126 1 [some (v_r 33 0), some (v_i a1), some (v_i a2), some (v_i a3), o4, o5, o6, o7, o8] [] μ = if a3 < (mj_w (4 * (μ 33 0 0))) then (if 0 ≤ (mj_w (3 * (mj_w (a3.tdiv 4)))) ∧ (mj_w (3 * (mj_w (a3.tdiv 4)))) < 12 then (if (0 : Int) ≤ (a3.tmod 4) ∧ (a3.tmod 4) < (32 : Int) then (if (0 : Int) ≤ (μ 34 0 ((mj_w (3 * (mj_w (a3.tdiv 4)))).toNat)) ∧ (0 : Int) ≤ (mj_w (1 * 2 ^ (a3.tmod 4).toNat)) then (if 0 ≤ (mj_w (3 * (mj_w (a3.tdiv 4)))) ∧ (mj_w (3 * (mj_w (a3.tdiv 4)))) < 12 then (if a2 = 0 then (mj_rI (kc d 125 [v_r 33 0, v_i a1] (mj_up μ 34 0 ((mj_w (3 * (mj_w (a3.tdiv 4)))).toNat) (((μ 34 0 ((mj_w (3 * (mj_w (a3.tdiv 4)))).toNat)).toNat ||| (mj_w (1 * 2 ^ (a3.tmod 4).toNat)).toNat : Nat) : Int))) fun x1 m2 => if x1 = 0 then (kd d 126 4 [some (v_r 33 0), some (v_i a1), some (v_i a2), some (v_i a3), some (v_i (μ 34 0 ((mj_w (3 * (mj_w (a3.tdiv 4)))).toNat))), some (v_i (mj_w ((mj_w (10 * (mj_w (a3.tdiv 4)))) + (a3.tmod 4)))), some (v_i (-1)), some (v_i (mj_w (a3 + 1))), none] [] m2) else (kd d 126 4 [some (v_r 33 0), some (v_i a1), some (v_i a2), some (v_i a3), some (v_i (μ 34 0 ((mj_w (3 * (mj_w (a3.tdiv 4)))).toNat))), some (v_i (mj_w ((mj_w (10 * (mj_w (a3.tdiv 4)))) + (a3.tmod 4)))), some (v_i (mj_w ((mj_w (10 * (mj_w (a3.tdiv 4)))) + (a3.tmod 4)))), some (v_i (mj_w (a3 + 1))), none] [] m2)) else (kd d 126 4 [some (v_r 33 0), some (v_i a1), some (v_i a2), some (v_i a3), some (v_i (μ 34 0 ((mj_w (3 * (mj_w (a3.tdiv 4)))).toNat))), some (v_i (mj_w ((mj_w (10 * (mj_w (a3.tdiv 4)))) + (a3.tmod 4)))), some (v_i (-1)), some (v_i (mj_w (a3 + 1))), none] [] (mj_up μ 34 0 ((mj_w (3 * (mj_w (a3.tdiv 4)))).toNat) (((μ 34 0 ((mj_w (3 * (mj_w (a3.tdiv 4)))).toNat)).toNat ||| (mj_w (1 * 2 ^ (a3.tmod 4).toNat)).toNat : Nat) : Int)))) else (none)) else (none)) else (none)) else (none)) else (some (some (v_i (-1)), μ)) := (kd_unf [1, 4, 7] 40).trans rfl
set_option maxRecDepth 20000 in
theorem ke126_4 (d : Nat) (a1 : Int) (a2 : Int) (a3 : Int) (a4 : Int) (a5 : Int) (a6 : Int) (a7 : Int) (o8 : Option mj_V) (μ : mj_M) : kd d 126 4 [some (v_r 33 0), some (v_i a1), some (v_i a2), some (v_i a3), some (v_i a4), some (v_i a5), some (v_i a6), some (v_i a7), o8] [] μ = if a7 < (mj_w (4 * (μ 33 0 0))) then (if a2 = 0 then (kd d 126 7 [some (v_r 33 0), some (v_i a1), some (v_i a2), some (v_i a3), some (v_i a4), some (v_i a5), some (v_i a6), some (v_i a7), none] [] μ) else (if a6 = (-1) then (if 0 ≤ (mj_w (3 * (mj_w (a7.tdiv 4)))) ∧ (mj_w (3 * (mj_w (a7.tdiv 4)))) < 12 then (if (0 : Int) ≤ (a7.tmod 4) ∧ (a7.tmod 4) < (32 : Int) then (if (0 : Int) ≤ (μ 34 0 ((mj_w (3 * (mj_w (a7.tdiv 4)))).toNat)) ∧ (0 : Int) ≤ (mj_w (1 * 2 ^ (a7.tmod 4).toNat)) then (if 0 ≤ (mj_w (3 * (mj_w (a7.tdiv 4)))) ∧ (mj_w (3 * (mj_w (a7.tdiv 4)))) < 12 then (mj_rI (kc d 125 [v_r 33 0, v_i a1] (mj_up μ 34 0 ((mj_w (3 * (mj_w (a7.tdiv 4)))).toNat) (((μ 34 0 ((mj_w (3 * (mj_w (a7.tdiv 4)))).toNat)).toNat ||| (mj_w (1 * 2 ^ (a7.tmod 4).toNat)).toNat : Nat) : Int))) fun x1 m2 => if x1 = 0 then (if 0 ≤ (mj_w (3 * (mj_w (a7.tdiv 4)))) ∧ (mj_w (3 * (mj_w (a7.tdiv 4)))) < 12 then (kd d 126 4 [some (v_r 33 0), some (v_i a1), some (v_i a2), some (v_i a3), some (v_i a4), some (v_i a5), some (v_i (-1)), some (v_i (mj_w (a7 + 1))), some (v_i (μ 34 0 ((mj_w (3 * (mj_w (a7.tdiv 4)))).toNat)))] [] (mj_up m2 34 0 ((mj_w (3 * (mj_w (a7.tdiv 4)))).toNat) (μ 34 0 ((mj_w (3 * (mj_w (a7.tdiv 4)))).toNat)))) else (none)) else (if 0 ≤ (mj_w (3 * (mj_w (a7.tdiv 4)))) ∧ (mj_w (3 * (mj_w (a7.tdiv 4)))) < 12 then (kd d 126 4 [some (v_r 33 0), some (v_i a1), some (v_i a2), some (v_i a3), some (v_i a4), some (v_i a5), some (v_i (mj_w ((mj_w ((mj_w (100 * a5)) + (mj_w (10 * (mj_w (a7.tdiv 4)))))) + (a7.tmod 4)))), some (v_i (mj_w (a7 + 1))), some (v_i (μ 34 0 ((mj_w (3 * (mj_w (a7.tdiv 4)))).toNat)))] [] (mj_up m2 34 0 ((mj_w (3 * (mj_w (a7.tdiv 4)))).toNat) (μ 34 0 ((mj_w (3 * (mj_w (a7.tdiv 4)))).toNat)))) else (none))) else (none)) else (none)) else (none)) else (none)) else (kd d 126 7 [some (v_r 33 0), some (v_i a1), some (v_i a2), some (v_i a3), some (v_i a4), some (v_i a5), some (v_i a6), some (v_i a7), none] [] μ))) else (kd d 126 7 [some (v_r 33 0), some (v_i a1), some (v_i a2), some (v_i a3), some (v_i a4), some (v_i a5), some (v_i a6), some (v_i a7), none] [] μ) := (kd_unf [1, 4, 7] 40).trans rfl
set_option maxRecDepth 20000 in
theorem ke126_7 (d : Nat) (a1 : Int) (a2 : Int) (a3 : Int) (a4 : Int) (o5 : Option mj_V) (a6 : Int) (o7 : Option mj_V) (o8 : Option mj_V) (μ : mj_M) : kd d 126 7 [some (v_r 33 0), some (v_i a1), some (v_i a2), some (v_i a3), some (v_i a4), o5, some (v_i a6), o7, o8] [] μ = if 0 ≤ (mj_w (3 * (mj_w (a3.tdiv 4)))) ∧ (mj_w (3 * (mj_w (a3.tdiv 4)))) < 12 then (if a6 = (-1) then (kd d 126 1 [some (v_r 33 0), some (v_i a1), some (v_i a2), some (v_i (mj_w (a3 + 1))), none, none, none, none, none] [] (mj_up μ 34 0 ((mj_w (3 * (mj_w (a3.tdiv 4)))).toNat) a4)) else (some (some (v_i a6), mj_up μ 34 0 ((mj_w (3 * (mj_w (a3.tdiv 4)))).toNat) a4))) else (none) := (kd_unf [1, 4, 7] 40).trans rfl
-- 127 NumbersCalledModel.train(II)I
set_option maxRecDepth 20000 in
theorem ke127_0 (d : Nat) (p1 : Int) (p2 : Int) (μ : mj_M) : kc (d + 1) 127 [v_r 33 0, v_i p1, v_i p2] μ = mj_rI (kc d 72 [v_i p1, v_i 0, v_i 999] μ) fun x1 m2 => if x1 = 0 then (some (some (v_i (-2)), m2)) else (mj_rI (kc d 72 [v_i p2, v_i 0, v_i 1] m2) fun x3 m4 => if x3 = 0 then (some (some (v_i (-2)), m4)) else (mj_rI (kc d 125 [v_r 33 0, v_i p1] m4) fun x5 m6 => if x5 = 0 then (mj_rI (kc d 126 [v_r 33 0, v_i p1, v_i 0] m6) fun x7 m8 => if x7 = (-1) then (mj_rI (kc d 126 [v_r 33 0, v_i p1, v_i 1] m8) fun x9 m10 => if p2 = 1 then (some (some (v_i x9), m10)) else (if x9 = (-1) then (some (some (v_i x9), m10)) else (some (some (v_i 2), m10)))) else (if p2 = 0 then (some (some (v_i 1), m8)) else (some (some (v_i x7), m8)))) else (if p2 = 0 then (some (some (v_i 0), m6)) else (some (some (v_i (-1)), m6))))) := (kd_unf [] 40).trans rfl
-- 128 NumbersCalledModel.rest(II)I
set_option maxRecDepth 20000 in
theorem ke128_0 (d : Nat) (p1 : Int) (p2 : Int) (μ : mj_M) : kc (d + 1) 128 [v_r 33 0, v_i p1, v_i p2] μ = mj_rI (kc d 74 [v_r 33 0, v_i p1] μ) fun x1 m2 => if x1 = 0 then (some (some (v_i (-5)), m2)) else (mj_rI (kc d 72 [v_i p2, v_i 0, v_i 1] m2) fun x3 m4 => if x3 = 0 then (some (some (v_i (-7)), m4)) else (if 0 ≤ (mj_w ((mj_w (3 * p1)) + 2)) ∧ (mj_w ((mj_w (3 * p1)) + 2)) < 12 then (kd d 128 3 [some (v_r 33 0), some (v_i p1), some (v_i p2), some (v_i (m4 34 0 ((mj_w ((mj_w (3 * p1)) + 2)).toNat))), some (v_i 0), some (v_i 0), some (v_i 0), none] [] m4) else (none))) := (kd_unf [3, 6] 40).trans rfl
set_option maxRecDepth 20000 in
theorem ke128_3 (d : Nat) (a1 : Int) (a2 : Int) (a3 : Int) (a4 : Int) (a5 : Int) (a6 : Int) (o7 : Option mj_V) (μ : mj_M) : kd d 128 3 [some (v_r 33 0), some (v_i a1), some (v_i a2), some (v_i a3), some (v_i a4), some (v_i a5), some (v_i a6), o7] [] μ = if 110 < a6 then (if 0 ≤ (mj_w ((mj_w (3 * a1)) + 2)) ∧ (mj_w ((mj_w (3 * a1)) + 2)) < 12 then (if a2 = 0 then (some (some (v_i a4), mj_up μ 34 0 ((mj_w ((mj_w (3 * a1)) + 2)).toNat) a3)) else (some (some (v_i a5), mj_up μ 34 0 ((mj_w ((mj_w (3 * a1)) + 2)).toNat) a3))) else (none)) else (if 0 ≤ (mj_w ((mj_w (3 * a1)) + 2)) ∧ (mj_w ((mj_w (3 * a1)) + 2)) < 12 then (mj_rI (kc d 122 [v_r 33 0] (mj_up μ 34 0 ((mj_w ((mj_w (3 * a1)) + 2)).toNat) a6)) fun x1 m2 => if a6 = 0 then (kd d 128 6 [some (v_r 33 0), some (v_i a1), some (v_i a2), some (v_i a3), none, some (v_i a5), some (v_i a6), some (v_i x1)] [v_i a6] m2) else (if x1 < a5 then (kd d 128 6 [some (v_r 33 0), some (v_i a1), some (v_i a2), some (v_i a3), none, some (v_i a5), some (v_i a6), some (v_i x1)] [v_i a6] m2) else (kd d 128 6 [some (v_r 33 0), some (v_i a1), some (v_i a2), some (v_i a3), some (v_i a4), some (v_i a5), some (v_i a6), some (v_i x1)] [v_i a4] m2))) else (none)) := (kd_unf [3, 6] 40).trans rfl
set_option maxRecDepth 20000 in
theorem ke128_6 (d : Nat) (a1 : Int) (a2 : Int) (a3 : Int) (o4 : Option mj_V) (a5 : Int) (a6 : Int) (a7 : Int) (s0 : Int) (μ : mj_M) : kd d 128 6 [some (v_r 33 0), some (v_i a1), some (v_i a2), some (v_i a3), o4, some (v_i a5), some (v_i a6), some (v_i a7)] [v_i s0] μ = if a6 = 0 then (kd d 128 3 [some (v_r 33 0), some (v_i a1), some (v_i a2), some (v_i a3), some (v_i s0), some (v_i a7), some (v_i (mj_w (a6 + 10))), none] [] μ) else (if a7 < a5 then (kd d 128 3 [some (v_r 33 0), some (v_i a1), some (v_i a2), some (v_i a3), some (v_i s0), some (v_i a7), some (v_i (mj_w (a6 + 10))), none] [] μ) else (kd d 128 3 [some (v_r 33 0), some (v_i a1), some (v_i a2), some (v_i a3), some (v_i s0), some (v_i a5), some (v_i (mj_w (a6 + 10))), none] [] μ)) := (kd_unf [3, 6] 40).trans rfl
-- 129 NumbersCalledModel.stop(I)I
set_option maxRecDepth 20000 in
theorem ke129_0 (d : Nat) (p1 : Int) (μ : mj_M) : kc (d + 1) 129 [v_r 33 0, v_i p1] μ = mj_rI (kc d 72 [v_i p1, v_i 0, v_i 999] μ) fun x1 m2 => if x1 = 0 then (some (some (v_i (-2)), m2)) else (kd d 129 2 [some (v_r 33 0), some (v_i p1), some (v_i (m2 33 0 4)), some (v_i (-1)), some (v_i 120)] [] m2) := (kd_unf [2] 40).trans rfl
set_option maxRecDepth 20000 in
theorem ke129_2 (d : Nat) (a1 : Int) (a2 : Int) (a3 : Int) (a4 : Int) (μ : mj_M) : kd d 129 2 [some (v_r 33 0), some (v_i a1), some (v_i a2), some (v_i a3), some (v_i a4)] [] μ = if a4 < 0 then (some (some (v_i a3), mj_up μ 33 0 4 a2)) else (if a3 = (-1) then (mj_rV (kc d 112 [v_r 33 0] (mj_up μ 33 0 4 a4)) fun m1 => mj_rI (kc d 117 [v_r 33 0] m1) fun x2 m3 => if a1 < x2 then (kd d 129 2 [some (v_r 33 0), some (v_i a1), some (v_i a2), some (v_i (-1)), some (v_i (mj_w (a4 + (-1))))] [] m3) else (mj_rI (kc d 115 [v_r 33 0, v_i 1] m3) fun x4 m5 => if x4 = 0 then (kd d 129 2 [some (v_r 33 0), some (v_i a1), some (v_i a2), some (v_i a4), some (v_i (mj_w (a4 + (-1))))] [] m5) else (kd d 129 2 [some (v_r 33 0), some (v_i a1), some (v_i a2), some (v_i (-1)), some (v_i (mj_w (a4 + (-1))))] [] m5))) else (some (some (v_i a3), mj_up μ 33 0 4 a2))) := (kd_unf [2] 40).trans rfl
-- 130 NumbersCalledModel.call(I)I
set_option maxRecDepth 20000 in
theorem ke130_0 (d : Nat) (p1 : Int) (μ : mj_M) : kc (d + 1) 130 [v_r 33 0, v_i p1] μ = mj_rI (kc d 72 [v_i p1, v_i 0, v_i 1] μ) fun x1 m2 => if x1 = 0 then (some (some (v_i (-2)), m2)) else (kd d 130 2 [some (v_r 33 0), some (v_i p1), some (v_i (m2 33 0 3)), some (v_i 0), some (v_i 0), some (v_i 1), none] [] m2) := (kd_unf [2, 5] 40).trans rfl
set_option maxRecDepth 20000 in
theorem ke130_2 (d : Nat) (a1 : Int) (a2 : Int) (a3 : Int) (a4 : Int) (a5 : Int) (o6 : Option mj_V) (μ : mj_M) : kd d 130 2 [some (v_r 33 0), some (v_i a1), some (v_i a2), some (v_i a3), some (v_i a4), some (v_i a5), o6] [] μ = if 9 < a5 then (if a1 = 0 then (some (some (v_i a3), mj_up μ 33 0 3 a2)) else (some (some (v_i a4), mj_up μ 33 0 3 a2))) else (mj_rI (kc d 122 [v_r 33 0] (mj_up μ 33 0 3 a5)) fun x1 m2 => if a5 = 1 then (kd d 130 5 [some (v_r 33 0), some (v_i a1), some (v_i a2), none, some (v_i a4), some (v_i a5), some (v_i x1)] [v_i a5] m2) else (if x1 < a4 then (kd d 130 5 [some (v_r 33 0), some (v_i a1), some (v_i a2), none, some (v_i a4), some (v_i a5), some (v_i x1)] [v_i a5] m2) else (kd d 130 5 [some (v_r 33 0), some (v_i a1), some (v_i a2), some (v_i a3), some (v_i a4), some (v_i a5), some (v_i x1)] [v_i a3] m2))) := (kd_unf [2, 5] 40).trans rfl
set_option maxRecDepth 20000 in
theorem ke130_5 (d : Nat) (a1 : Int) (a2 : Int) (o3 : Option mj_V) (a4 : Int) (a5 : Int) (a6 : Int) (s0 : Int) (μ : mj_M) : kd d 130 5 [some (v_r 33 0), some (v_i a1), some (v_i a2), o3, some (v_i a4), some (v_i a5), some (v_i a6)] [v_i s0] μ = if a5 = 1 then (kd d 130 2 [some (v_r 33 0), some (v_i a1), some (v_i a2), some (v_i s0), some (v_i a6), some (v_i (mj_w (a5 + 1))), none] [] μ) else (if a6 < a4 then (kd d 130 2 [some (v_r 33 0), some (v_i a1), some (v_i a2), some (v_i s0), some (v_i a6), some (v_i (mj_w (a5 + 1))), none] [] μ) else (kd d 130 2 [some (v_r 33 0), some (v_i a1), some (v_i a2), some (v_i s0), some (v_i a4), some (v_i (mj_w (a5 + 1))), none] [] μ)) := (kd_unf [2, 5] 40).trans rfl
-- 131 NumbersCalledModel.waitsBut(I)I
set_option maxRecDepth 20000 in
theorem ke131_0 (d : Nat) (p1 : Int) (μ : mj_M) : kc (d + 1) 131 [v_r 33 0, v_i p1] μ = mj_rV (kc d 112 [v_r 33 0] μ) fun m1 => kd d 131 1 [some (v_r 33 0), some (v_i p1), some (v_i 0), some (v_i 0), none] [] m1 := (kd_unf [1, 2, 5] 40).trans rfl
set_option maxRecDepth 20000 in
theorem ke131_1 (d : Nat) (a1 : Int) (a2 : Int) (a3 : Int) (o4 : Option mj_V) (μ : mj_M) : kd d 131 1 [some (v_r 33 0), some (v_i a1), some (v_i a2), some (v_i a3), o4] [] μ = if a3 < (μ 33 0 5) then (if a1 = 2 then (kd d 131 5 [some (v_r 33 0), some (v_i a1), some (v_i a2), some (v_i a3), none] [v_i 1] μ) else (if a1 = 1 then (if 0 ≤ a3 ∧ a3 < 17 then (if (μ 35 0 a3.toNat) = 4 then (kd d 131 2 [some (v_r 33 0), some (v_i a1), some (v_i a2), some (v_i a3), none] [] μ) else (kd d 131 5 [some (v_r 33 0), some (v_i a1), some (v_i a2), some (v_i a3), none] [v_i 1] μ)) else (none)) else (kd d 131 2 [some (v_r 33 0), some (v_i a1), some (v_i a2), some (v_i a3), none] [] μ))) else (some (some (v_i a2), μ)) := (kd_unf [1, 2, 5] 40).trans rfl
set_option maxRecDepth 20000 in
theorem ke131_2 (d : Nat) (a1 : Int) (a2 : Int) (a3 : Int) (o4 : Option mj_V) (μ : mj_M) : kd d 131 2 [some (v_r 33 0), some (v_i a1), some (v_i a2), some (v_i a3), o4] [] μ = if a1 = 3 then (if 0 ≤ a3 ∧ a3 < 17 then (if (μ 35 0 a3.toNat) = 3 then (kd d 131 5 [some (v_r 33 0), some (v_i a1), some (v_i a2), some (v_i a3), none] [v_i 0] μ) else (kd d 131 5 [some (v_r 33 0), some (v_i a1), some (v_i a2), some (v_i a3), none] [v_i 1] μ)) else (none)) else (kd d 131 5 [some (v_r 33 0), some (v_i a1), some (v_i a2), some (v_i a3), none] [v_i 0] μ) := (kd_unf [1, 2, 5] 40).trans rfl
set_option maxRecDepth 20000 in
theorem ke131_5 (d : Nat) (a1 : Int) (a2 : Int) (a3 : Int) (o4 : Option mj_V) (s0 : Int) (μ : mj_M) : kd d 131 5 [some (v_r 33 0), some (v_i a1), some (v_i a2), some (v_i a3), o4] [v_i s0] μ = if s0 = 0 then (kd d 131 1 [some (v_r 33 0), some (v_i a1), some (v_i (mj_w (a2 + 0))), some (v_i (mj_w (a3 + 1))), none] [] μ) else (if 0 ≤ a3 ∧ a3 < 17 then (if (μ 53 0 a3.toNat) = 2 then (mj_rI (kc d 113 [v_r 33 0, v_i a3] μ) fun x1 m2 => kd d 131 1 [some (v_r 33 0), some (v_i a1), some (v_i (mj_w (a2 + x1))), some (v_i (mj_w (a3 + 1))), none] [] m2) else (kd d 131 1 [some (v_r 33 0), some (v_i a1), some (v_i (mj_w (a2 + 0))), some (v_i (mj_w (a3 + 1))), none] [] μ)) else (none)) := (kd_unf [1, 2, 5] 40).trans rfl
-- 132 NumbersCalledModel.pay(I)I
set_option maxRecDepth 20000 in
theorem ke132_0 (d : Nat) (p1 : Int) (μ : mj_M) : kc (d + 1) 132 [v_r 33 0, v_i p1] μ = mj_rI (kc d 72 [v_i p1, v_i 1, v_i 3] μ) fun x1 m2 => if x1 = 0 then (some (some (v_i (-2)), m2)) else (mj_rI (kc d 131 [v_r 33 0, v_i p1] (mj_up m2 33 0 2 p1)) fun x3 m4 => mj_rI (kc d 131 [v_r 33 0, v_i p1] (mj_up m4 33 0 2 0)) fun x5 m6 => some (some (v_i (mj_w (x3 - x5))), mj_up m6 33 0 2 (m2 33 0 2))) := (kd_unf [] 40).trans rfl
-- 133 NumbersCalledModel.door(I)I
set_option maxRecDepth 20000 in
theorem ke133_0 (d : Nat) (p1 : Int) (μ : mj_M) : kc (d + 1) 133 [v_r 33 0, v_i p1] μ = mj_rI (kc d 72 [v_i p1, v_i 0, v_i 1] μ) fun x1 m2 => if x1 = 0 then (some (some (v_i (-2)), m2)) else (mj_rI (kc d 122 [v_r 33 0] m2) fun x3 m4 => if p1 = 0 then (if p1 = 1 then (kd d 133 5 [some (v_r 33 0), some (v_i p1), some (v_i x3), none] [v_i 1, v_r 33 0] (mj_up m4 33 0 41 1)) else (kd d 133 5 [some (v_r 33 0), none, some (v_i x3), none] [v_i 0, v_r 33 0] (mj_up m4 33 0 41 1))) else (if p1 = 1 then (kd d 133 5 [some (v_r 33 0), some (v_i p1), some (v_i x3), none] [v_i 1, v_r 33 0] (mj_up m4 33 0 41 0)) else (kd d 133 5 [some (v_r 33 0), none, some (v_i x3), none] [v_i 0, v_r 33 0] (mj_up m4 33 0 41 0)))) := (kd_unf [5] 40).trans rfl
set_option maxRecDepth 20000 in
theorem ke133_5 (d : Nat) (o1 : Option mj_V) (a2 : Int) (o3 : Option mj_V) (s0 : Int) (μ : mj_M) : kd d 133 5 [some (v_r 33 0), o1, some (v_i a2), o3] [v_i s0, v_r 33 0] μ = if s0 = 0 ∨ s0 = 1 then (mj_rI (kc d 122 [v_r 33 0] (mj_up μ 33 0 50 s0)) fun x1 m2 => some (some (v_i (mj_w (a2 - x1))), mj_up (mj_up m2 33 0 41 0) 33 0 50 0)) else (none) := (kd_unf [5] 40).trans rfl
-- 134 NumbersCalledModel.say(I)I
set_option maxRecDepth 20000 in
theorem ke134_0 (d : Nat) (p1 : Int) (μ : mj_M) : kc (d + 1) 134 [v_r 33 0, v_i p1] μ = mj_rI (kc d 72 [v_i p1, v_i 0, v_i 1] μ) fun x1 m2 => if x1 = 0 then (some (some (v_i (-2)), m2)) else (mj_rV (kc d 112 [v_r 33 0] m2) fun m3 => kd d 134 2 [some (v_r 33 0), some (v_i p1), some (v_i 0), some (v_i 0), some (v_i 0), none, none] [] m3) := (kd_unf [2, 3, 9] 40).trans rfl
set_option maxRecDepth 20000 in
theorem ke134_2 (d : Nat) (a1 : Int) (a2 : Int) (a3 : Int) (a4 : Int) (o5 : Option mj_V) (o6 : Option mj_V) (μ : mj_M) : kd d 134 2 [some (v_r 33 0), some (v_i a1), some (v_i a2), some (v_i a3), some (v_i a4), o5, o6] [] μ = if 60 < a4 then (if a1 = 0 then (some (some (v_i a2), μ)) else (some (some (v_i a3), μ))) else (kd d 134 3 [some (v_r 33 0), some (v_i a1), some (v_i a2), some (v_i a3), some (v_i a4), some (v_i 0), some (v_i 0)] [] μ) := (kd_unf [2, 3, 9] 40).trans rfl
set_option maxRecDepth 20000 in
theorem ke134_3 (d : Nat) (a1 : Int) (a2 : Int) (a3 : Int) (a4 : Int) (a5 : Int) (a6 : Int) (μ : mj_M) : kd d 134 3 [some (v_r 33 0), some (v_i a1), some (v_i a2), some (v_i a3), some (v_i a4), some (v_i a5), some (v_i a6)] [] μ = if a6 < (μ 33 0 5) then (if 0 ≤ a6 ∧ a6 < 17 then (if (μ 53 0 a6.toNat) = 2 then (mj_rI (kc d 113 [v_r 33 0, v_i a6] μ) fun x1 m2 => mj_rI (kc d 98 [v_r 33 0, v_i 2, v_i a6, v_i 0, v_i x1, v_i a4] m2) fun x3 m4 => kd d 134 3 [some (v_r 33 0), some (v_i a1), some (v_i a2), some (v_i a3), some (v_i a4), some (v_i (mj_w (a5 + x3))), some (v_i (mj_w (a6 + 1)))] [] m4) else (kd d 134 3 [some (v_r 33 0), some (v_i a1), some (v_i a2), some (v_i a3), some (v_i a4), some (v_i (mj_w (a5 + 0))), some (v_i (mj_w (a6 + 1)))] [] μ)) else (none)) else (if a4 = 0 then (kd d 134 9 [some (v_r 33 0), some (v_i a1), none, some (v_i a3), some (v_i a4), some (v_i a5), none] [v_i a4] μ) else (if a5 < a3 then (kd d 134 9 [some (v_r 33 0), some (v_i a1), none, some (v_i a3), some (v_i a4), some (v_i a5), none] [v_i a4] μ) else (kd d 134 9 [some (v_r 33 0), some (v_i a1), some (v_i a2), some (v_i a3), some (v_i a4), some (v_i a5), none] [v_i a2] μ))) := (kd_unf [2, 3, 9] 40).trans rfl
set_option maxRecDepth 20000 in
theorem ke134_9 (d : Nat) (a1 : Int) (o2 : Option mj_V) (a3 : Int) (a4 : Int) (a5 : Int) (o6 : Option mj_V) (s0 : Int) (μ : mj_M) : kd d 134 9 [some (v_r 33 0), some (v_i a1), o2, some (v_i a3), some (v_i a4), some (v_i a5), o6] [v_i s0] μ = if a4 = 0 then (kd d 134 2 [some (v_r 33 0), some (v_i a1), some (v_i s0), some (v_i a5), some (v_i (mj_w (a4 + 5))), none, none] [] μ) else (if a5 < a3 then (kd d 134 2 [some (v_r 33 0), some (v_i a1), some (v_i s0), some (v_i a5), some (v_i (mj_w (a4 + 5))), none, none] [] μ) else (kd d 134 2 [some (v_r 33 0), some (v_i a1), some (v_i s0), some (v_i a3), some (v_i (mj_w (a4 + 5))), none, none] [] μ)) := (kd_unf [2, 3, 9] 40).trans rfl
-- 135 NumbersCalledModel.badFor(I)I
set_option maxRecDepth 20000 in
theorem ke135_0 (d : Nat) (p1 : Int) (μ : mj_M) : kc (d + 1) 135 [v_r 33 0, v_i p1] μ = mj_rV (kc d 112 [v_r 33 0] μ) fun m1 => if 0 ≤ p1 ∧ p1 < 17 then (if (m1 53 0 p1.toNat) = 2 then (mj_rI (kc d 113 [v_r 33 0, v_i p1] m1) fun x2 m3 => some (some (v_i x2), m3)) else (some (some (v_i 120), m1))) else (none) := (kd_unf [] 40).trans rfl
-- 136 NumbersCalledModel.bestFor(I)I
set_option maxRecDepth 20000 in
theorem ke136_0 (d : Nat) (p1 : Int) (μ : mj_M) : kc (d + 1) 136 [v_r 33 0, v_i p1] μ = if 0 ≤ p1 ∧ p1 < 17 then (kd d 136 1 [some (v_r 33 0), some (v_i p1), some (v_i (μ 39 0 p1.toNat)), some (v_i 0), some (v_i 0), none] [] μ) else (none) := (kd_unf [1, 4] 40).trans rfl
set_option maxRecDepth 20000 in
theorem ke136_1 (d : Nat) (a1 : Int) (a2 : Int) (a3 : Int) (a4 : Int) (o5 : Option mj_V) (μ : mj_M) : kd d 136 1 [some (v_r 33 0), some (v_i a1), some (v_i a2), some (v_i a3), some (v_i a4), o5] [] μ = if 100 < a4 then (if 0 ≤ a1 ∧ a1 < 17 then (some (some (v_i a3), mj_up μ 39 0 a1.toNat a2)) else (none)) else (if 0 ≤ a1 ∧ a1 < 17 then (mj_rI (kc d 135 [v_r 33 0, v_i a1] (mj_up μ 39 0 a1.toNat a4)) fun x1 m2 => if a4 = 0 then (kd d 136 4 [some (v_r 33 0), some (v_i a1), some (v_i a2), none, some (v_i a4), some (v_i x1)] [v_i a4] m2) else (if x1 < (m2 33 0 51) then (kd d 136 4 [some (v_r 33 0), some (v_i a1), some (v_i a2), none, some (v_i a4), some (v_i x1)] [v_i a4] m2) else (kd d 136 4 [some (v_r 33 0), some (v_i a1), some (v_i a2), some (v_i a3), some (v_i a4), some (v_i x1)] [v_i a3] m2))) else (none)) := (kd_unf [1, 4] 40).trans rfl
set_option maxRecDepth 20000 in
theorem ke136_4 (d : Nat) (a1 : Int) (a2 : Int) (o3 : Option mj_V) (a4 : Int) (a5 : Int) (s0 : Int) (μ : mj_M) : kd d 136 4 [some (v_r 33 0), some (v_i a1), some (v_i a2), o3, some (v_i a4), some (v_i a5)] [v_i s0] μ = if a4 = 0 then (kd d 136 1 [some (v_r 33 0), some (v_i a1), some (v_i a2), some (v_i s0), some (v_i (mj_w (a4 + 20))), none] [] (mj_up μ 33 0 51 a5)) else (if a5 < (μ 33 0 51) then (kd d 136 1 [some (v_r 33 0), some (v_i a1), some (v_i a2), some (v_i s0), some (v_i (mj_w (a4 + 20))), none] [] (mj_up μ 33 0 51 a5)) else (kd d 136 1 [some (v_r 33 0), some (v_i a1), some (v_i a2), some (v_i s0), some (v_i (mj_w (a4 + 20))), none] [] (mj_up μ 33 0 51 (μ 33 0 51)))) := (kd_unf [1, 4] 40).trans rfl
-- 137 NumbersCalledModel.best(II)I
set_option maxRecDepth 20000 in
theorem ke137_0 (d : Nat) (p1 : Int) (p2 : Int) (μ : mj_M) : kc (d + 1) 137 [v_r 33 0, v_i p1, v_i p2] μ = mj_rI (kc d 75 [v_r 33 0, v_i p1] μ) fun x1 m2 => if x1 = 0 then (some (some (v_i (-5)), m2)) else (mj_rI (kc d 72 [v_i p2, v_i 0, v_i 1] m2) fun x3 m4 => if x3 = 0 then (some (some (v_i (-7)), m4)) else (mj_rI (kc d 136 [v_r 33 0, v_i p1] m4) fun x5 m6 => if p2 = 0 then (some (some (v_i x5), m6)) else (some (some (v_i (m6 33 0 51)), m6)))) := (kd_unf [] 40).trans rfl
-- 138 NumbersCalledModel.uneasy()I
set_option maxRecDepth 20000 in
theorem ke138_0 (d : Nat)  (μ : mj_M) : kc (d + 1) 138 [v_r 33 0] μ = kd d 138 1 [some (v_r 33 0), some (v_i 0), some (v_i 0), none] [] μ := (kd_unf [1] 40).trans rfl
set_option maxRecDepth 20000 in
theorem ke138_1 (d : Nat) (a1 : Int) (a2 : Int) (o3 : Option mj_V) (μ : mj_M) : kd d 138 1 [some (v_r 33 0), some (v_i a1), some (v_i a2), o3] [] μ = if a2 < (μ 33 0 5) then (mj_rI (kc d 136 [v_r 33 0, v_i a2] μ) fun x1 m2 => mj_rI (kc d 135 [v_r 33 0, v_i a2] m2) fun x3 m4 => if (m2 33 0 51) < x3 then (if (0 : Int) ≤ a2 ∧ a2 < (32 : Int) then (if (0 : Int) ≤ a1 ∧ (0 : Int) ≤ (mj_w (1 * 2 ^ a2.toNat)) then (kd d 138 1 [some (v_r 33 0), some (v_i ((a1.toNat ||| (mj_w (1 * 2 ^ a2.toNat)).toNat : Nat) : Int)), some (v_i (mj_w (a2 + 1))), none] [] m4) else (none)) else (none)) else (if (0 : Int) ≤ a1 ∧ (0 : Int) ≤ 0 then (kd d 138 1 [some (v_r 33 0), some (v_i ((a1.toNat ||| 0 : Nat) : Int)), some (v_i (mj_w (a2 + 1))), none] [] m4) else (none))) else (some (some (v_i a1), μ)) := (kd_unf [1] 40).trans rfl
-- 139 NumbersCalledModel.rests(I)I
set_option maxRecDepth 20000 in
theorem ke139_0 (d : Nat) (p1 : Int) (μ : mj_M) : kc (d + 1) 139 [v_r 33 0, v_i p1] μ = mj_rI (kc d 72 [v_i p1, v_i 0, v_i 5] μ) fun x1 m2 => if x1 = 0 then (some (some (v_i (-2)), m2)) else (kd d 139 2 [some (v_r 33 0), some (v_i p1), some (v_i 0), some (v_i 1), some (v_i 0), none, none, none] [] m2) := (kd_unf [2, 3] 40).trans rfl
set_option maxRecDepth 20000 in
theorem ke139_2 (d : Nat) (a1 : Int) (a2 : Int) (a3 : Int) (a4 : Int) (o5 : Option mj_V) (o6 : Option mj_V) (o7 : Option mj_V) (μ : mj_M) : kd d 139 2 [some (v_r 33 0), some (v_i a1), some (v_i a2), some (v_i a3), some (v_i a4), o5, o6, o7] [] μ = if a4 < a1 then (if a3 = 0 then (some (some (v_i a2), μ)) else (kd d 139 3 [some (v_r 33 0), some (v_i a1), some (v_i a2), some (v_i 0), some (v_i a4), some (v_i 0), none, none] [] μ)) else (some (some (v_i a2), μ)) := (kd_unf [2, 3] 40).trans rfl
set_option maxRecDepth 20000 in
theorem ke139_3 (d : Nat) (a1 : Int) (a2 : Int) (a3 : Int) (a4 : Int) (a5 : Int) (o6 : Option mj_V) (o7 : Option mj_V) (μ : mj_M) : kd d 139 3 [some (v_r 33 0), some (v_i a1), some (v_i a2), some (v_i a3), some (v_i a4), some (v_i a5), o6, o7] [] μ = if a5 < (μ 33 0 5) then (mj_rI (kc d 136 [v_r 33 0, v_i a5] μ) fun x1 m2 => mj_rI (kc d 135 [v_r 33 0, v_i a5] m2) fun x3 m4 => if (m2 33 0 51) < x3 then (if 0 ≤ a5 ∧ a5 < 17 then (kd d 139 3 [some (v_r 33 0), some (v_i a1), some (v_i (mj_w (a2 + 1))), some (v_i 1), some (v_i a4), some (v_i (mj_w (a5 + 1))), none, none] [] (mj_up m4 39 0 a5.toNat x1)) else (none)) else (kd d 139 3 [some (v_r 33 0), some (v_i a1), some (v_i a2), some (v_i a3), some (v_i a4), some (v_i (mj_w (a5 + 1))), none, none] [] m4)) else (kd d 139 2 [some (v_r 33 0), some (v_i a1), some (v_i a2), some (v_i a3), some (v_i (mj_w (a4 + 1))), none, none, none] [] μ) := (kd_unf [2, 3] 40).trans rfl
-- 140 NumbersCalledModel.when(III)I
set_option maxRecDepth 20000 in
theorem ke140_0 (d : Nat) (p1 : Int) (p2 : Int) (p3 : Int) (μ : mj_M) : kc (d + 1) 140 [v_r 33 0, v_i p1, v_i p2, v_i p3] μ = mj_rI (kc d 72 [v_i p1, v_i 0, v_i 3] μ) fun x1 m2 => if x1 = 0 then (some (some (v_i (-2)), m2)) else (mj_rI (kc d 72 [v_i p2, v_i 1, v_i 99] m2) fun x3 m4 => if x3 = 0 then (some (some (v_i (-2)), m4)) else (mj_rI (kc d 72 [v_i p3, v_i 0, v_i 1] m4) fun x5 m6 => if x5 = 0 then (some (some (v_i (-2)), m6)) else (if (m6 33 0 5) = 16 then (some (some (v_i (-3)), m6)) else (mj_rV (kc d 100 [v_r 33 0, v_i 0, v_i (mj_w ((mj_w ((mj_w (1000 * p1)) + (mj_w (10 * p2)))) + 9)), v_i 0] m6) fun m7 => mj_rI (kc d 136 [v_r 33 0, v_i (mj_w ((mj_w ((m7 33 0 5) + 1)) - 1))] (mj_up m7 33 0 5 (mj_w ((m7 33 0 5) + 1)))) fun x8 m9 => if p3 = 0 then (some (some (v_i x8), mj_up m9 33 0 5 (mj_w ((m9 33 0 5) - 1)))) else (some (some (v_i (m9 33 0 51)), mj_up m9 33 0 5 (mj_w ((m9 33 0 5) - 1)))))))) := (kd_unf [] 40).trans rfl
-- 141 NumbersCalledModel.overOf(III)J
set_option maxRecDepth 20000 in
theorem ke141_0 (d : Nat) (p1 : Int) (p2 : Int) (p3 : Int) (μ : mj_M) : kc (d + 1) 141 [v_r 33 0, v_i p1, v_i p2, v_i p3] μ = kd d 141 1 [some (v_r 33 0), some (v_i p1), some (v_i p2), some (v_i p3), some (v_i 0), none, none] [] μ := (kd_unf [1, 5, 6, 9] 40).trans rfl
set_option maxRecDepth 20000 in
theorem ke141_1 (d : Nat) (a1 : Int) (a2 : Int) (a3 : Int) (a4 : Int) (o5 : Option mj_V) (o6 : Option mj_V) (μ : mj_M) : kd d 141 1 [some (v_r 33 0), some (v_i a1), some (v_i a2), some (v_i a3), some (v_i a4), o5, o6] [] μ = if 40 < a4 then (kd d 141 5 [some (v_r 33 0), some (v_i a1), some (v_i a2), some (v_i a3), some (v_i 0), none, none] [] μ) else (if a4 = 0 then (if 0 ≤ a4 ∧ a4 < 41 then (kd d 141 1 [some (v_r 33 0), some (v_i a1), some (v_i a2), some (v_i a3), some (v_i (mj_w (a4 + 1))), none, none] [] (mj_up μ 61 0 a4.toNat 1000000000)) else (none)) else (if 0 ≤ a4 ∧ a4 < 41 then (kd d 141 1 [some (v_r 33 0), some (v_i a1), some (v_i a2), some (v_i a3), some (v_i (mj_w (a4 + 1))), none, none] [] (mj_up μ 61 0 a4.toNat 0)) else (none))) := (kd_unf [1, 5, 6, 9] 40).trans rfl
set_option maxRecDepth 20000 in
theorem ke141_5 (d : Nat) (a1 : Int) (a2 : Int) (a3 : Int) (a4 : Int) (o5 : Option mj_V) (o6 : Option mj_V) (μ : mj_M) : kd d 141 5 [some (v_r 33 0), some (v_i a1), some (v_i a2), some (v_i a3), some (v_i a4), o5, o6] [] μ = if a4 < a1 then (kd d 141 6 [some (v_r 33 0), some (v_i a1), some (v_i a2), some (v_i a3), some (v_i a4), some (v_i 40), none] [] μ) else (kd d 141 9 [some (v_r 33 0), none, none, some (v_i a3), some (v_l 0), none, some (v_i (mj_w (a3 + 1)))] [] μ) := (kd_unf [1, 5, 6, 9] 40).trans rfl
set_option maxRecDepth 20000 in
theorem ke141_6 (d : Nat) (a1 : Int) (a2 : Int) (a3 : Int) (a4 : Int) (a5 : Int) (o6 : Option mj_V) (μ : mj_M) : kd d 141 6 [some (v_r 33 0), some (v_i a1), some (v_i a2), some (v_i a3), some (v_i a4), some (v_i a5), o6] [] μ = if 0 < a5 then (if 0 ≤ a5 ∧ a5 < 41 then (if 0 ≤ (mj_w (a5 - 1)) ∧ (mj_w (a5 - 1)) < 41 then (if 0 ≤ a5 ∧ a5 < 41 then (kd d 141 6 [some (v_r 33 0), some (v_i a1), some (v_i a2), some (v_i a3), some (v_i a4), some (v_i (mj_w (a5 + (-1)))), none] [] (mj_up μ 61 0 a5.toNat (mj_x ((mj_x ((mj_x ((μ 61 0 a5.toNat) * (mj_w (100 - a2)))).tdiv 100)) + (mj_x ((mj_x ((μ 61 0 ((mj_w (a5 - 1)).toNat)) * a2)).tdiv 100)))))) else (none)) else (none)) else (none)) else (kd d 141 5 [some (v_r 33 0), some (v_i a1), some (v_i a2), some (v_i a3), some (v_i (mj_w (a4 + 1))), none, none] [] (mj_up μ 61 0 0 (mj_x ((mj_x ((μ 61 0 0) * (mj_w (100 - a2)))).tdiv 100)))) := (kd_unf [1, 5, 6, 9] 40).trans rfl
set_option maxRecDepth 20000 in
theorem ke141_9 (d : Nat) (o1 : Option mj_V) (o2 : Option mj_V) (o3 : Option mj_V) (a4 : Int) (o5 : Option mj_V) (a6 : Int) (μ : mj_M) : kd d 141 9 [some (v_r 33 0), o1, o2, o3, some (v_l a4), o5, some (v_i a6)] [] μ = if 40 < a6 then (some (some (v_l a4), μ)) else (if 0 ≤ a6 ∧ a6 < 41 then (kd d 141 9 [some (v_r 33 0), none, none, none, some (v_l (mj_x (a4 + (μ 61 0 a6.toNat)))), none, some (v_i (mj_w (a6 + 1)))] [] μ) else (none)) := (kd_unf [1, 5, 6, 9] 40).trans rfl
-- 142 NumbersCalledModel.over(III)J
set_option maxRecDepth 20000 in
theorem ke142_0 (d : Nat) (p1 : Int) (p2 : Int) (p3 : Int) (μ : mj_M) : kc (d + 1) 142 [v_r 33 0, v_i p1, v_i p2, v_i p3] μ = mj_rI (kc d 72 [v_i p1, v_i 0, v_i 40] μ) fun x1 m2 => if x1 = 0 then (some (some (v_l (-4611686018427387904)), m2)) else (mj_rI (kc d 72 [v_i p2, v_i 0, v_i 100] m2) fun x3 m4 => if x3 = 0 then (some (some (v_l (-4611686018427387904)), m4)) else (mj_rI (kc d 72 [v_i p3, v_i 0, v_i 40] m4) fun x5 m6 => if x5 = 0 then (some (some (v_l (-4611686018427387904)), m6)) else (mj_rL (kc d 141 [v_r 33 0, v_i p1, v_i p2, v_i p3] m6) fun x7 m8 => some (some (v_l x7), m8)))) := (kd_unf [] 40).trans rfl
-- 143 NumbersCalledModel.give(III)I
set_option maxRecDepth 20000 in
theorem ke143_0 (d : Nat) (p1 : Int) (p2 : Int) (p3 : Int) (μ : mj_M) : kc (d + 1) 143 [v_r 33 0, v_i p1, v_i p2, v_i p3] μ = mj_rI (kc d 72 [v_i p1, v_i 0, v_i 100] μ) fun x1 m2 => if x1 = 0 then (some (some (v_i (-2)), m2)) else (mj_rI (kc d 72 [v_i p2, v_i 0, v_i 40] m2) fun x3 m4 => if x3 = 0 then (some (some (v_i (-2)), m4)) else (mj_rI (kc d 72 [v_i p3, v_i 0, v_i 1000] m4) fun x5 m6 => if x5 = 0 then (some (some (v_i (-2)), m6)) else (kd d 143 3 [some (v_r 33 0), some (v_i p1), some (v_i p2), some (v_i p3), some (v_i 40)] [] m6))) := (kd_unf [3] 40).trans rfl
set_option maxRecDepth 20000 in
theorem ke143_3 (d : Nat) (a1 : Int) (a2 : Int) (a3 : Int) (a4 : Int) (μ : mj_M) : kd d 143 3 [some (v_r 33 0), some (v_i a1), some (v_i a2), some (v_i a3), some (v_i a4)] [] μ = if 0 < a4 then (mj_rL (kc d 141 [v_r 33 0, v_i a4, v_i a1, v_i a2] μ) fun x1 m2 => if x1 < (mj_x (1000000 * a3)) then (some (some (v_i a4), m2)) else if x1 = (mj_x (1000000 * a3)) then (some (some (v_i a4), m2)) else (kd d 143 3 [some (v_r 33 0), some (v_i a1), some (v_i a2), some (v_i a3), some (v_i (mj_w (a4 + (-1))))] [] m2)) else (some (some (v_i 0), μ)) := (kd_unf [3] 40).trans rfl
-- 144 NumbersCalledModel.rollWrong(I)I
set_option maxRecDepth 20000 in
theorem ke144_0 (d : Nat) (p1 : Int) (μ : mj_M) : kc (d + 1) 144 [v_r 33 0, v_i p1] μ = mj_rI (kc d 72 [v_i p1, v_i 0, v_i 3] μ) fun x1 m2 => if x1 = 0 then (some (some (v_i (-2)), m2)) else (if 0 ≤ p1 ∧ p1 < 4 then (if (m2 45 0 p1.toNat) = (-1) then (some (some (v_i (-11)), m2)) else (if 0 ≤ p1 ∧ p1 < 4 then (if (m2 46 0 p1.toNat) = (m2 33 0 5) then (some (some (v_i 0), m2)) else (some (some (v_i (-2)), m2))) else (none))) else (none)) := (kd_unf [] 40).trans rfl
-- 145 NumbersCalledModel.unlike(I)I
set_option maxRecDepth 20000 in
theorem ke145_0 (d : Nat) (p1 : Int) (μ : mj_M) : kc (d + 1) 145 [v_r 33 0, v_i p1] μ = mj_rV (kc d 112 [v_r 33 0] μ) fun m1 => kd d 145 1 [some (v_r 33 0), some (v_i p1), some (v_i 0)] [] m1 := (kd_unf [1] 40).trans rfl
set_option maxRecDepth 20000 in
theorem ke145_1 (d : Nat) (a1 : Int) (a2 : Int) (μ : mj_M) : kd d 145 1 [some (v_r 33 0), some (v_i a1), some (v_i a2)] [] μ = if a2 < (μ 33 0 5) then (if 0 ≤ (mj_w ((mj_w (40 * a1)) + a2)) ∧ (mj_w ((mj_w (40 * a1)) + a2)) < 160 then (if 0 ≤ a2 ∧ a2 < 17 then (if (μ 47 0 ((mj_w ((mj_w (40 * a1)) + a2)).toNat)) = (μ 56 0 a2.toNat) then (kd d 145 1 [some (v_r 33 0), some (v_i a1), some (v_i (mj_w (a2 + 1)))] [] μ) else (some (some (v_i a2), μ))) else (none)) else (none)) else (some (some (v_i (-1)), μ)) := (kd_unf [1] 40).trans rfl
-- 146 NumbersCalledModel.judge(I)I
set_option maxRecDepth 20000 in
theorem ke146_0 (d : Nat) (p1 : Int) (μ : mj_M) : kc (d + 1) 146 [v_r 33 0, v_i p1] μ = mj_rI (kc d 144 [v_r 33 0, v_i p1] μ) fun x1 m2 => if x1 = 0 then (mj_rI (kc d 145 [v_r 33 0, v_i p1] m2) fun x3 m4 => some (some (v_i x3), m4)) else (some (some (v_i x1), m2)) := (kd_unf [] 40).trans rfl
-- 147 NumbersCalledModel.laws(I)I
set_option maxRecDepth 20000 in
theorem ke147_0 (d : Nat) (p1 : Int) (μ : mj_M) : kc (d + 1) 147 [v_r 33 0, v_i p1] μ = mj_rI (kc d 144 [v_r 33 0, v_i p1] μ) fun x1 m2 => if x1 = 0 then (kd d 147 2 [some (v_r 33 0), some (v_i p1), none, some (v_i (m2 33 0 16)), some (v_i 0), some (v_i 0)] [] m2) else (some (some (v_i x1), m2)) := (kd_unf [2] 40).trans rfl
set_option maxRecDepth 20000 in
theorem ke147_2 (d : Nat) (a1 : Int) (o2 : Option mj_V) (a3 : Int) (a4 : Int) (a5 : Int) (μ : mj_M) : kd d 147 2 [some (v_r 33 0), some (v_i a1), o2, some (v_i a3), some (v_i a4), some (v_i a5)] [] μ = if a5 < (μ 33 0 15) then (mj_rI (kc d 145 [v_r 33 0, v_i a1] (mj_up μ 33 0 16 a5)) fun x1 m2 => if x1 = (-1) then (if (0 : Int) ≤ a5 ∧ a5 < (32 : Int) then (if (0 : Int) ≤ a4 ∧ (0 : Int) ≤ (mj_w (1 * 2 ^ a5.toNat)) then (kd d 147 2 [some (v_r 33 0), some (v_i a1), none, some (v_i a3), some (v_i ((a4.toNat ||| (mj_w (1 * 2 ^ a5.toNat)).toNat : Nat) : Int)), some (v_i (mj_w (a5 + 1)))] [] m2) else (none)) else (none)) else (if (0 : Int) ≤ a4 ∧ (0 : Int) ≤ 0 then (kd d 147 2 [some (v_r 33 0), some (v_i a1), none, some (v_i a3), some (v_i ((a4.toNat ||| 0 : Nat) : Int)), some (v_i (mj_w (a5 + 1)))] [] m2) else (none))) else (some (some (v_i a4), mj_up μ 33 0 16 a3)) := (kd_unf [2] 40).trans rfl
-- 148 NumbersCalledModel.which(I)I
set_option maxRecDepth 20000 in
theorem ke148_0 (d : Nat) (p1 : Int) (μ : mj_M) : kc (d + 1) 148 [v_r 33 0, v_i p1] μ = mj_rI (kc d 144 [v_r 33 0, v_i p1] μ) fun x1 m2 => if x1 = 0 then (kd d 148 2 [some (v_r 33 0), some (v_i p1), none, some (v_i (m2 33 0 2)), some (v_i 0), some (v_i 0)] [] m2) else (some (some (v_i x1), m2)) := (kd_unf [2] 40).trans rfl
set_option maxRecDepth 20000 in
theorem ke148_2 (d : Nat) (a1 : Int) (o2 : Option mj_V) (a3 : Int) (a4 : Int) (a5 : Int) (μ : mj_M) : kd d 148 2 [some (v_r 33 0), some (v_i a1), o2, some (v_i a3), some (v_i a4), some (v_i a5)] [] μ = if a5 < 4 then (mj_rI (kc d 145 [v_r 33 0, v_i a1] (mj_up μ 33 0 2 a5)) fun x1 m2 => if x1 = (-1) then (if (0 : Int) ≤ a5 ∧ a5 < (32 : Int) then (if (0 : Int) ≤ a4 ∧ (0 : Int) ≤ (mj_w (1 * 2 ^ a5.toNat)) then (kd d 148 2 [some (v_r 33 0), some (v_i a1), none, some (v_i a3), some (v_i ((a4.toNat ||| (mj_w (1 * 2 ^ a5.toNat)).toNat : Nat) : Int)), some (v_i (mj_w (a5 + 1)))] [] m2) else (none)) else (none)) else (if (0 : Int) ≤ a4 ∧ (0 : Int) ≤ 0 then (kd d 148 2 [some (v_r 33 0), some (v_i a1), none, some (v_i a3), some (v_i ((a4.toNat ||| 0 : Nat) : Int)), some (v_i (mj_w (a5 + 1)))] [] m2) else (none))) else (some (some (v_i a4), mj_up μ 33 0 2 a3)) := (kd_unf [2] 40).trans rfl
-- 149 NumbersCalledModel.film(I)I
set_option maxRecDepth 20000 in
theorem ke149_0 (d : Nat) (p1 : Int) (μ : mj_M) : kc (d + 1) 149 [v_r 33 0, v_i p1] μ = mj_rI (kc d 72 [v_i p1, v_i 0, v_i 3] μ) fun x1 m2 => if x1 = 0 then (some (some (v_i (-2)), m2)) else (mj_rV (kc d 112 [v_r 33 0] m2) fun m3 => if 0 ≤ p1 ∧ p1 < 4 then (if 0 ≤ p1 ∧ p1 < 4 then (kd d 149 2 [some (v_r 33 0), some (v_i p1), some (v_i 0)] [] (mj_up (mj_up m3 45 0 p1.toNat 2) 46 0 p1.toNat (m3 33 0 5))) else (none)) else (none)) := (kd_unf [2] 40).trans rfl
set_option maxRecDepth 20000 in
theorem ke149_2 (d : Nat) (a1 : Int) (a2 : Int) (μ : mj_M) : kd d 149 2 [some (v_r 33 0), some (v_i a1), some (v_i a2)] [] μ = if a2 < 40 then (if a2 < (μ 33 0 5) then (if 0 ≤ a2 ∧ a2 < 17 then (if 0 ≤ (mj_w ((mj_w (40 * a1)) + a2)) ∧ (mj_w ((mj_w (40 * a1)) + a2)) < 160 then (kd d 149 2 [some (v_r 33 0), some (v_i a1), some (v_i (mj_w (a2 + 1)))] [] (mj_up μ 47 0 ((mj_w ((mj_w (40 * a1)) + a2)).toNat) (μ 56 0 a2.toNat))) else (none)) else (none)) else (if 0 ≤ (mj_w ((mj_w (40 * a1)) + a2)) ∧ (mj_w ((mj_w (40 * a1)) + a2)) < 160 then (kd d 149 2 [some (v_r 33 0), some (v_i a1), some (v_i (mj_w (a2 + 1)))] [] (mj_up μ 47 0 ((mj_w ((mj_w (40 * a1)) + a2)).toNat) 0)) else (none))) else (some (some (v_i (μ 33 0 5)), μ)) := (kd_unf [2] 40).trans rfl
-- 150 NumbersCalledModel.draws(I)V
set_option maxRecDepth 20000 in
theorem ke150_0 (d : Nat) (p1 : Int) (μ : mj_M) : kc (d + 1) 150 [v_r 33 0, v_i p1] μ = kd d 150 1 [some (v_r 33 0), some (v_i p1), some (v_l (mj_x (p1 + 1))), none, some (v_i 0)] [] μ := (kd_unf [1] 40).trans rfl
set_option maxRecDepth 20000 in
theorem ke150_1 (d : Nat) (o1 : Option mj_V) (a2 : Int) (o3 : Option mj_V) (a4 : Int) (μ : mj_M) : kd d 150 1 [some (v_r 33 0), o1, some (v_l a2), o3, some (v_i a4)] [] μ = if a4 < (μ 33 0 5) then (if 0 ≤ a4 ∧ a4 < 17 then (if 0 ≤ a4 ∧ a4 < 17 then (if 0 ≤ a4 ∧ a4 < 17 then (mj_rI (kc d 73 [v_i (mj_w ((mj_w ((μ 39 0 a4.toNat) + (mj_w (((mj_x (a2 * 48271)).tmod 2147483647).tmod 21)))) - 10)), v_i 0, v_i 119] (mj_up μ 62 0 a4.toNat (μ 39 0 a4.toNat))) fun x2 m3 => if 0 ≤ a4 ∧ a4 < 17 then (kd d 150 1 [some (v_r 33 0), none, some (v_l ((mj_x (a2 * 48271)).tmod 2147483647)), none, some (v_i (mj_w (a4 + 1)))] [] (mj_up m3 39 0 a4.toNat x2)) else (none)) else (none)) else (none)) else (none)) else (mj_rV (kc d 112 [v_r 33 0] μ) fun m1 => some (none, m1)) := (kd_unf [1] 40).trans rfl
-- 151 NumbersCalledModel.undraws()V
set_option maxRecDepth 20000 in
theorem ke151_0 (d : Nat)  (μ : mj_M) : kc (d + 1) 151 [v_r 33 0] μ = kd d 151 1 [some (v_r 33 0), some (v_i 0)] [] μ := (kd_unf [1] 40).trans rfl
set_option maxRecDepth 20000 in
theorem ke151_1 (d : Nat) (a1 : Int) (μ : mj_M) : kd d 151 1 [some (v_r 33 0), some (v_i a1)] [] μ = if a1 < (μ 33 0 5) then (if 0 ≤ a1 ∧ a1 < 17 then (if 0 ≤ a1 ∧ a1 < 17 then (kd d 151 1 [some (v_r 33 0), some (v_i (mj_w (a1 + 1)))] [] (mj_up μ 39 0 a1.toNat (μ 62 0 a1.toNat))) else (none)) else (none)) else (some (none, μ)) := (kd_unf [1] 40).trans rfl
-- 152 NumbersCalledModel.drawn(II)I
set_option maxRecDepth 20000 in
theorem ke152_0 (d : Nat) (p1 : Int) (p2 : Int) (μ : mj_M) : kc (d + 1) 152 [v_r 33 0, v_i p1, v_i p2] μ = mj_rI (kc d 72 [v_i p1, v_i 0, v_i 99999] μ) fun x1 m2 => if x1 = 0 then (some (some (v_i (-2)), m2)) else (mj_rI (kc d 72 [v_i p2, v_i 0, v_i 7] m2) fun x3 m4 => if x3 = 0 then (some (some (v_i (-2)), m4)) else (mj_rV (kc d 150 [v_r 33 0, v_i p1] m4) fun m5 => mj_rI (kc d 119 [v_r 33 0, v_i p2] m5) fun x6 m7 => mj_rV (kc d 151 [v_r 33 0] m7) fun m8 => some (some (v_i x6), m8))) := (kd_unf [] 40).trans rfl
-- 153 NumbersCalledModel.lowest(JJI)J
set_option maxRecDepth 20000 in
theorem ke153_0 (d : Nat) (p0 : Int) (p2 : Int) (p4 : Int) (μ : mj_M) : kc (d + 1) 153 [v_l p0, v_l p2, v_i p4] μ = if p0 < 0 then (kd d 153 2 [some (v_l p0), none, some (v_l p2), none, some (v_i p4), some (v_l p0), none, some (v_l p2), none, none, none] [] μ) else if p0 = 0 then (some (some (v_l p4), μ)) else (kd d 153 2 [some (v_l p0), none, some (v_l p2), none, some (v_i p4), some (v_l p0), none, some (v_l p2), none, none, none] [] μ) := (kd_unf [2] 40).trans rfl
set_option maxRecDepth 20000 in
theorem ke153_2 (d : Nat) (a0 : Int) (o1 : Option mj_V) (a2 : Int) (o3 : Option mj_V) (a4 : Int) (a5 : Int) (o6 : Option mj_V) (a7 : Int) (o8 : Option mj_V) (o9 : Option mj_V) (o10 : Option mj_V) (μ : mj_M) : kd d 153 2 [some (v_l a0), o1, some (v_l a2), o3, some (v_i a4), some (v_l a5), o6, some (v_l a7), o8, o9, o10] [] μ = if a7 < 0 then (if a7 = 0 then (none) else (kd d 153 2 [some (v_l a0), none, some (v_l a2), none, some (v_i a4), some (v_l a7), none, some (v_l (a5.tmod a7)), none, some (v_l (a5.tmod a7)), none] [] μ)) else if a7 = 0 then (if a4 = 0 then (if a5 = 0 then (none) else (some (some (v_l (mj_x (a0.tdiv a5))), μ))) else (if a5 = 0 then (none) else (some (some (v_l (mj_x (a2.tdiv a5))), μ)))) else (if a7 = 0 then (none) else (kd d 153 2 [some (v_l a0), none, some (v_l a2), none, some (v_i a4), some (v_l a7), none, some (v_l (a5.tmod a7)), none, some (v_l (a5.tmod a7)), none] [] μ)) := (kd_unf [2] 40).trans rfl
-- 154 NumbersCalledModel.odds(IIII)J
set_option maxRecDepth 20000 in
theorem ke154_0 (d : Nat) (p1 : Int) (p2 : Int) (p3 : Int) (p4 : Int) (μ : mj_M) : kc (d + 1) 154 [v_r 33 0, v_i p1, v_i p2, v_i p3, v_i p4] μ = mj_rI (kc d 72 [v_i p1, v_i 0, v_i 99999] μ) fun x1 m2 => if x1 = 0 then (some (some (v_l (-4611686018427387904)), m2)) else (mj_rI (kc d 72 [v_i p2, v_i 1, v_i 20] m2) fun x3 m4 => if x3 = 0 then (some (some (v_l (-4611686018427387904)), m4)) else (mj_rI (kc d 72 [v_i p3, v_i 0, v_i 999] m4) fun x5 m6 => if x5 = 0 then (some (some (v_l (-4611686018427387904)), m6)) else (mj_rI (kc d 72 [v_i p4, v_i 0, v_i 1] m6) fun x7 m8 => if x7 = 0 then (some (some (v_l (-4611686018427387904)), m8)) else (kd d 154 3 [some (v_r 33 0), some (v_i p1), some (v_i p2), some (v_i p3), some (v_i p4), some (v_l 0), none, some (v_i 0)] [] m8)))) := (kd_unf [3] 40).trans rfl
set_option maxRecDepth 20000 in
theorem ke154_3 (d : Nat) (a1 : Int) (a2 : Int) (a3 : Int) (a4 : Int) (a5 : Int) (o6 : Option mj_V) (a7 : Int) (μ : mj_M) : kd d 154 3 [some (v_r 33 0), some (v_i a1), some (v_i a2), some (v_i a3), some (v_i a4), some (v_l a5), o6, some (v_i a7)] [] μ = if a7 < a2 then (mj_rV (kc d 150 [v_r 33 0, v_i (mj_w (a1 + a7))] μ) fun m3 => mj_rI (kc d 117 [v_r 33 0] m3) fun x4 m5 => if a3 < x4 then (mj_rV (kc d 151 [v_r 33 0] m5) fun m6 => kd d 154 3 [some (v_r 33 0), some (v_i a1), some (v_i a2), some (v_i a3), some (v_i a4), some (v_l (mj_x (a5 + 0))), none, some (v_i (mj_w (a7 + 1)))] [] m6) else (mj_rI (kc d 115 [v_r 33 0, v_i 1] m5) fun x7 m8 => if x7 = 0 then (mj_rV (kc d 151 [v_r 33 0] m8) fun m10 => kd d 154 3 [some (v_r 33 0), some (v_i a1), some (v_i a2), some (v_i a3), some (v_i a4), some (v_l (mj_x (a5 + 1))), none, some (v_i (mj_w (a7 + 1)))] [] m10) else (mj_rV (kc d 151 [v_r 33 0] m8) fun m9 => kd d 154 3 [some (v_r 33 0), some (v_i a1), some (v_i a2), some (v_i a3), some (v_i a4), some (v_l (mj_x (a5 + 0))), none, some (v_i (mj_w (a7 + 1)))] [] m9))) else (mj_rL (kc d 153 [v_l a5, v_l a2, v_i a4] μ) fun x1 m2 => some (some (v_l x1), m2)) := (kd_unf [3] 40).trans rfl
-- 155 NumbersCalledModel.image()I
set_option maxRecDepth 20000 in
theorem ke155_0 (d : Nat)  (μ : mj_M) : kc (d + 1) 155 [v_r 33 0] μ = kd d 155 1 [some (v_r 33 0), some (v_i 0)] [] (mj_up (mj_up (mj_up (mj_up (mj_up (mj_up (mj_up μ 33 0 17 1) 33 0 18 (μ 33 0 0)) 33 0 19 (μ 33 0 2)) 33 0 20 (μ 33 0 3)) 33 0 21 (μ 33 0 4)) 33 0 22 (μ 33 0 5)) 33 0 23 (μ 33 0 16)) := (kd_unf [1, 3] 40).trans rfl
set_option maxRecDepth 20000 in
theorem ke155_1 (d : Nat) (a1 : Int) (μ : mj_M) : kd d 155 1 [some (v_r 33 0), some (v_i a1)] [] μ = if a1 < 12 then (if 0 ≤ a1 ∧ a1 < 12 then (if 0 ≤ a1 ∧ a1 < 12 then (kd d 155 1 [some (v_r 33 0), some (v_i (mj_w (a1 + 1)))] [] (mj_up μ 43 0 a1.toNat (μ 34 0 a1.toNat))) else (none)) else (none)) else (kd d 155 3 [some (v_r 33 0), some (v_i 0)] [] μ) := (kd_unf [1, 3] 40).trans rfl
set_option maxRecDepth 20000 in
theorem ke155_3 (d : Nat) (a1 : Int) (μ : mj_M) : kd d 155 3 [some (v_r 33 0), some (v_i a1)] [] μ = if a1 < 16 then (if 0 ≤ a1 ∧ a1 < 17 then (if 0 ≤ a1 ∧ a1 < 17 then (kd d 155 3 [some (v_r 33 0), some (v_i (mj_w (a1 + 1)))] [] (mj_up μ 44 0 a1.toNat (μ 39 0 a1.toNat))) else (none)) else (none)) else (some (some (v_i (μ 33 0 5)), μ)) := (kd_unf [1, 3] 40).trans rfl
-- 156 NumbersCalledModel.back()I
set_option maxRecDepth 20000 in
theorem ke156_0 (d : Nat)  (μ : mj_M) : kc (d + 1) 156 [v_r 33 0] μ = if (μ 33 0 17) = 0 then (some (some (v_i (-3)), μ)) else (kd d 156 2 [some (v_r 33 0), some (v_i 0)] [] (mj_up (mj_up (mj_up (mj_up (mj_up (mj_up μ 33 0 0 (μ 33 0 18)) 33 0 2 (μ 33 0 19)) 33 0 3 (μ 33 0 20)) 33 0 4 (μ 33 0 21)) 33 0 5 (μ 33 0 22)) 33 0 16 (μ 33 0 23))) := (kd_unf [2, 4] 40).trans rfl
set_option maxRecDepth 20000 in
theorem ke156_2 (d : Nat) (a1 : Int) (μ : mj_M) : kd d 156 2 [some (v_r 33 0), some (v_i a1)] [] μ = if a1 < 12 then (if 0 ≤ a1 ∧ a1 < 12 then (if 0 ≤ a1 ∧ a1 < 12 then (kd d 156 2 [some (v_r 33 0), some (v_i (mj_w (a1 + 1)))] [] (mj_up μ 34 0 a1.toNat (μ 43 0 a1.toNat))) else (none)) else (none)) else (kd d 156 4 [some (v_r 33 0), some (v_i 0)] [] μ) := (kd_unf [2, 4] 40).trans rfl
set_option maxRecDepth 20000 in
theorem ke156_4 (d : Nat) (a1 : Int) (μ : mj_M) : kd d 156 4 [some (v_r 33 0), some (v_i a1)] [] μ = if a1 < 16 then (if 0 ≤ a1 ∧ a1 < 17 then (if 0 ≤ a1 ∧ a1 < 17 then (kd d 156 4 [some (v_r 33 0), some (v_i (mj_w (a1 + 1)))] [] (mj_up μ 39 0 a1.toNat (μ 44 0 a1.toNat))) else (none)) else (none)) else (some (some (v_i (μ 33 0 5)), μ)) := (kd_unf [2, 4] 40).trans rfl
-- 157 NumbersCalledModel.sheet(III)I
set_option maxRecDepth 20000 in
theorem ke157_0 (d : Nat) (p1 : Int) (p2 : Int) (p3 : Int) (μ : mj_M) : kc (d + 1) 157 [v_r 33 0, v_i p1, v_i p2, v_i p3] μ = mj_rI (kc d 72 [v_i p1, v_i 0, v_i 3] μ) fun x1 m2 => if x1 = 0 then (some (some (v_i (-2)), m2)) else (mj_rI (kc d 72 [v_i p2, v_i (-1), v_i 2] m2) fun x3 m4 => if x3 = 0 then (some (some (v_i (-2)), m4)) else (if p2 = (-1) then (if p2 = (-1) then (kd d 157 3 [some (v_r 33 0), some (v_i p1), some (v_i p2), some (v_i p3), none] [] m4) else (if p3 < 0 then (some (some (v_i (-14)), m4)) else (kd d 157 3 [some (v_r 33 0), some (v_i p1), some (v_i p2), some (v_i p3), none] [] m4))) else (if 40 < p3 then (some (some (v_i (-2)), m4)) else (if p2 = (-1) then (kd d 157 3 [some (v_r 33 0), some (v_i p1), some (v_i p2), some (v_i p3), none] [] m4) else (if p3 < 0 then (some (some (v_i (-14)), m4)) else (kd d 157 3 [some (v_r 33 0), some (v_i p1), some (v_i p2), some (v_i p3), none] [] m4)))))) := (kd_unf [3, 6] 40).trans rfl
set_option maxRecDepth 20000 in
theorem ke157_3 (d : Nat) (a1 : Int) (a2 : Int) (a3 : Int) (o4 : Option mj_V) (μ : mj_M) : kd d 157 3 [some (v_r 33 0), some (v_i a1), some (v_i a2), some (v_i a3), o4] [] μ = if 0 ≤ a1 ∧ a1 < 4 then (if a2 = (-1) then (if 0 ≤ a1 ∧ a1 < 4 then (kd d 157 6 [some (v_r 33 0), some (v_i a1), none, none, some (v_i 0)] [] (mj_up (mj_up μ 45 0 a1.toNat a2) 46 0 a1.toNat 0)) else (none)) else (if 0 ≤ a1 ∧ a1 < 4 then (kd d 157 6 [some (v_r 33 0), some (v_i a1), none, none, some (v_i 0)] [] (mj_up (mj_up μ 45 0 a1.toNat a2) 46 0 a1.toNat a3)) else (none))) else (none) := (kd_unf [3, 6] 40).trans rfl
set_option maxRecDepth 20000 in
theorem ke157_6 (d : Nat) (a1 : Int) (o2 : Option mj_V) (o3 : Option mj_V) (a4 : Int) (μ : mj_M) : kd d 157 6 [some (v_r 33 0), some (v_i a1), o2, o3, some (v_i a4)] [] μ = if a4 < 40 then (if 0 ≤ (mj_w ((mj_w (40 * a1)) + a4)) ∧ (mj_w ((mj_w (40 * a1)) + a4)) < 160 then (kd d 157 6 [some (v_r 33 0), some (v_i a1), none, none, some (v_i (mj_w (a4 + 1)))] [] (mj_up μ 47 0 ((mj_w ((mj_w (40 * a1)) + a4)).toNat) 0)) else (none)) else (some (some (v_i 1), μ)) := (kd_unf [3, 6] 40).trans rfl
-- 158 NumbersCalledModel.cell(III)I
set_option maxRecDepth 20000 in
theorem ke158_0 (d : Nat) (p1 : Int) (p2 : Int) (p3 : Int) (μ : mj_M) : kc (d + 1) 158 [v_r 33 0, v_i p1, v_i p2, v_i p3] μ = mj_rI (kc d 72 [v_i p1, v_i 0, v_i 3] μ) fun x1 m2 => if x1 = 0 then (some (some (v_i (-2)), m2)) else (if 0 ≤ p1 ∧ p1 < 4 then (if (m2 45 0 p1.toNat) = (-1) then (some (some (v_i (-11)), m2)) else (if 0 ≤ p1 ∧ p1 < 4 then (mj_rI (kc d 72 [v_i p2, v_i 0, v_i (mj_w ((m2 46 0 p1.toNat) - 1))] m2) fun x3 m4 => if x3 = 0 then (some (some (v_i (-12)), m4)) else (if 0 ≤ p1 ∧ p1 < 4 then (if (m4 45 0 p1.toNat) = 0 then (if 0 ≤ (mj_w ((mj_w (40 * p1)) + p2)) ∧ (mj_w ((mj_w (40 * p1)) + p2)) < 160 then (some (some (v_i 1), mj_up m4 47 0 ((mj_w ((mj_w (40 * p1)) + p2)).toNat) ((p3 + 128) % 256 - 128))) else (none)) else (if 0 ≤ p1 ∧ p1 < 4 then (if (m4 45 0 p1.toNat) = 1 then (if 0 ≤ (mj_w ((mj_w (40 * p1)) + p2)) ∧ (mj_w ((mj_w (40 * p1)) + p2)) < 160 then (some (some (v_i 1), mj_up m4 47 0 ((mj_w ((mj_w (40 * p1)) + p2)).toNat) ((p3 + 32768) % 65536 - 32768))) else (none)) else (if 0 ≤ (mj_w ((mj_w (40 * p1)) + p2)) ∧ (mj_w ((mj_w (40 * p1)) + p2)) < 160 then (some (some (v_i 1), mj_up m4 47 0 ((mj_w ((mj_w (40 * p1)) + p2)).toNat) p3)) else (none))) else (none))) else (none))) else (none))) else (none)) := (kd_unf [] 40).trans rfl
-- 159 NumbersCalledModel.copy(IIIII)I
set_option maxRecDepth 20000 in
theorem ke159_0 (d : Nat) (p1 : Int) (p2 : Int) (p3 : Int) (p4 : Int) (p5 : Int) (μ : mj_M) : kc (d + 1) 159 [v_r 33 0, v_i p1, v_i p2, v_i p3, v_i p4, v_i p5] μ = mj_rI (kc d 72 [v_i p1, v_i 0, v_i 3] μ) fun x1 m2 => if x1 = 0 then (some (some (v_i (-2)), m2)) else (mj_rI (kc d 72 [v_i p3, v_i 0, v_i 3] m2) fun x3 m4 => if x3 = 0 then (some (some (v_i (-2)), m4)) else (if 0 ≤ p1 ∧ p1 < 4 then (if (m4 45 0 p1.toNat) = (-1) then (some (some (v_i (-11)), m4)) else (if 0 ≤ p3 ∧ p3 < 4 then (if (m4 45 0 p3.toNat) = (-1) then (some (some (v_i (-11)), m4)) else (if 0 ≤ p1 ∧ p1 < 4 then (if 0 ≤ p3 ∧ p3 < 4 then (if (m4 45 0 p1.toNat) = (m4 45 0 p3.toNat) then (if p5 < 0 then (some (some (v_i (-12)), m4)) else (if p2 < 0 then (some (some (v_i (-12)), m4)) else (if p4 < 0 then (some (some (v_i (-12)), m4)) else (if 0 ≤ p1 ∧ p1 < 4 then (if (m4 46 0 p1.toNat) < p2 then (some (some (v_i (-12)), m4)) else (if 0 ≤ p3 ∧ p3 < 4 then (if (m4 46 0 p3.toNat) < p4 then (some (some (v_i (-12)), m4)) else (if 0 ≤ p1 ∧ p1 < 4 then (if (mj_w ((m4 46 0 p1.toNat) - p2)) < p5 then (some (some (v_i (-12)), m4)) else (if 0 ≤ p3 ∧ p3 < 4 then (if (mj_w ((m4 46 0 p3.toNat) - p4)) < p5 then (some (some (v_i (-12)), m4)) else (kd d 159 8 [some (v_r 33 0), some (v_i p1), some (v_i p2), some (v_i p3), some (v_i p4), some (v_i p5), some (v_i (mj_w ((mj_w (40 * p1)) + p2))), some (v_i (mj_w ((mj_w (40 * p3)) + p4))), some (v_i 0), none] [] m4)) else (none))) else (none))) else (none))) else (none))))) else (some (some (v_i (-13)), m4))) else (none)) else (none))) else (none))) else (none))) := (kd_unf [8, 10] 40).trans rfl
set_option maxRecDepth 20000 in
theorem ke159_8 (d : Nat) (o1 : Option mj_V) (o2 : Option mj_V) (o3 : Option mj_V) (o4 : Option mj_V) (a5 : Int) (a6 : Int) (a7 : Int) (a8 : Int) (o9 : Option mj_V) (μ : mj_M) : kd d 159 8 [some (v_r 33 0), o1, o2, o3, o4, some (v_i a5), some (v_i a6), some (v_i a7), some (v_i a8), o9] [] μ = if a8 < a5 then (if a6 < a7 then (kd d 159 10 [some (v_r 33 0), none, none, none, none, some (v_i a5), some (v_i a6), some (v_i a7), some (v_i a8), none] [v_i (mj_w ((mj_w (a5 - 1)) - a8))] μ) else (kd d 159 10 [some (v_r 33 0), none, none, none, none, some (v_i a5), some (v_i a6), some (v_i a7), some (v_i a8), none] [v_i a8] μ)) else (some (some (v_i a5), μ)) := (kd_unf [8, 10] 40).trans rfl
set_option maxRecDepth 20000 in
theorem ke159_10 (d : Nat) (o1 : Option mj_V) (o2 : Option mj_V) (o3 : Option mj_V) (o4 : Option mj_V) (a5 : Int) (a6 : Int) (a7 : Int) (a8 : Int) (o9 : Option mj_V) (s0 : Int) (μ : mj_M) : kd d 159 10 [some (v_r 33 0), o1, o2, o3, o4, some (v_i a5), some (v_i a6), some (v_i a7), some (v_i a8), o9] [v_i s0] μ = if 0 ≤ (mj_w (a6 + s0)) ∧ (mj_w (a6 + s0)) < 160 then (if 0 ≤ (mj_w (a7 + s0)) ∧ (mj_w (a7 + s0)) < 160 then (kd d 159 8 [some (v_r 33 0), none, none, none, none, some (v_i a5), some (v_i a6), some (v_i a7), some (v_i (mj_w (a8 + 1))), some (v_i s0)] [] (mj_up μ 47 0 ((mj_w (a7 + s0)).toNat) (μ 47 0 ((mj_w (a6 + s0)).toNat)))) else (none)) else (none) := (kd_unf [8, 10] 40).trans rfl
-- 160 NumbersCalledModel.pulls(IIII)I
set_option maxRecDepth 20000 in
theorem ke160_0 (d : Nat) (p1 : Int) (p2 : Int) (p3 : Int) (p4 : Int) (μ : mj_M) : kc (d + 1) 160 [v_r 33 0, v_i p1, v_i p2, v_i p3, v_i p4] μ = mj_rI (kc d 72 [v_i p1, v_i 0, v_i 3] μ) fun x1 m2 => if x1 = 0 then (some (some (v_i (-2)), m2)) else (mj_rI (kc d 72 [v_i p2, v_i 0, v_i 2] m2) fun x3 m4 => if x3 = 0 then (some (some (v_i (-2)), m4)) else (mj_rI (kc d 72 [v_i p4, v_i 0, v_i 13] m4) fun x5 m6 => if x5 = 0 then (some (some (v_i (-2)), m6)) else (if 0 ≤ p1 ∧ p1 < 4 then (if (m6 45 0 p1.toNat) = (-1) then (some (some (v_i (-11)), m6)) else (if 0 ≤ p1 ∧ p1 < 4 then (if (m6 45 0 p1.toNat) = p2 then (kd d 160 5 [some (v_r 33 0), some (v_i p1), none, some (v_i p3), some (v_i p4), some (v_i 0), some (v_i 0), none, none] [] m6) else (some (some (v_i (-13)), m6))) else (none))) else (none)))) := (kd_unf [5] 40).trans rfl
set_option maxRecDepth 20000 in
theorem ke160_5 (d : Nat) (a1 : Int) (o2 : Option mj_V) (a3 : Int) (a4 : Int) (a5 : Int) (a6 : Int) (o7 : Option mj_V) (o8 : Option mj_V) (μ : mj_M) : kd d 160 5 [some (v_r 33 0), some (v_i a1), o2, some (v_i a3), some (v_i a4), some (v_i a5), some (v_i a6), o7, o8] [] μ = if a6 < a4 then (if a3 < 0 then (some (some (v_i (-12)), μ)) else (if (mj_w (a3 + (mj_w (3 * a6)))) < a3 then (some (some (v_i (-12)), μ)) else (if 0 ≤ a1 ∧ a1 < 4 then (if (mj_w ((μ 46 0 a1.toNat) - 3)) < (mj_w (a3 + (mj_w (3 * a6)))) then (some (some (v_i (-12)), μ)) else (if 0 ≤ (mj_w ((mj_w (40 * a1)) + (mj_w (a3 + (mj_w (3 * a6)))))) ∧ (mj_w ((mj_w (40 * a1)) + (mj_w (a3 + (mj_w (3 * a6)))))) < 160 then (if 0 ≤ (mj_w ((mj_w ((mj_w (40 * a1)) + (mj_w (a3 + (mj_w (3 * a6)))))) + 1)) ∧ (mj_w ((mj_w ((mj_w (40 * a1)) + (mj_w (a3 + (mj_w (3 * a6)))))) + 1)) < 160 then (if 0 ≤ (mj_w ((mj_w ((mj_w (40 * a1)) + (mj_w (a3 + (mj_w (3 * a6)))))) + 2)) ∧ (mj_w ((mj_w ((mj_w (40 * a1)) + (mj_w (a3 + (mj_w (3 * a6)))))) + 2)) < 160 then (mj_rI (kc d 99 [v_r 33 0, v_i (μ 47 0 ((mj_w ((mj_w (40 * a1)) + (mj_w (a3 + (mj_w (3 * a6)))))).toNat)), v_i (μ 47 0 ((mj_w ((mj_w ((mj_w (40 * a1)) + (mj_w (a3 + (mj_w (3 * a6)))))) + 1)).toNat)), v_i (μ 47 0 ((mj_w ((mj_w ((mj_w (40 * a1)) + (mj_w (a3 + (mj_w (3 * a6)))))) + 2)).toNat))] μ) fun x1 m2 => if x1 < 0 then (kd d 160 5 [some (v_r 33 0), some (v_i a1), none, some (v_i a3), some (v_i a4), some (v_i (mj_w (a5 + 0))), some (v_i (mj_w (a6 + 1))), none, none] [] m2) else (kd d 160 5 [some (v_r 33 0), some (v_i a1), none, some (v_i a3), some (v_i a4), some (v_i (mj_w (a5 + 1))), some (v_i (mj_w (a6 + 1))), none, none] [] m2)) else (none)) else (none)) else (none))) else (none)))) else (some (some (v_i a5), μ)) := (kd_unf [5] 40).trans rfl
-- 161 NumbersCalledModel.isUnder(II)Z
set_option maxRecDepth 20000 in
theorem ke161_0 (d : Nat) (p0 : Int) (p1 : Int) (μ : mj_M) : kc (d + 1) 161 [v_i p0, v_i p1] μ = if p1 = 0 then (some (some (v_i 1), μ)) else (if p0 = p1 then (some (some (v_i 1), μ)) else (if p1 = 2 then (if p0 = 3 then (some (some (v_i 1), μ)) else (kd d 161 1 [some (v_i p0), some (v_i p1)] [] μ)) else (kd d 161 1 [some (v_i p0), some (v_i p1)] [] μ))) := (kd_unf [1] 40).trans rfl
set_option maxRecDepth 20000 in
theorem ke161_1 (d : Nat) (a0 : Int) (a1 : Int) (μ : mj_M) : kd d 161 1 [some (v_i a0), some (v_i a1)] [] μ = if a1 = 1 then (if a0 = 5 then (some (some (v_i 1), μ)) else (some (some (v_i 0), μ))) else (some (some (v_i 0), μ)) := (kd_unf [1] 40).trans rfl
-- 162 NumbersCalledModel.taken(II)I
set_option maxRecDepth 20000 in
theorem ke162_0 (d : Nat) (p1 : Int) (p2 : Int) (μ : mj_M) : kc (d + 1) 162 [v_r 33 0, v_i p1, v_i p2] μ = mj_rI (kc d 72 [v_i p2, v_i 0, v_i 6] μ) fun x1 m2 => if x1 = 0 then (some (some (v_i (-2)), m2)) else (mj_rI (kc d 72 [v_i p1, v_i 0, v_i 19] m2) fun x3 m4 => if x3 = 0 then (some (some (v_i (-12)), m4)) else (if p1 < 4 then (if p1 < (m4 33 0 0) then (if p2 = 6 then (if 0 ≤ (mj_w (3 * p1)) ∧ (mj_w (3 * p1)) < 12 then (some (some (v_i (m4 34 0 ((mj_w (3 * p1)).toNat))), m4)) else (none)) else (some (some (v_i (-13)), m4))) else (some (some (v_i (-11)), m4))) else (if (mj_w (p1 - 4)) < (m4 33 0 5) then (if p2 < 6 then (if 0 ≤ (mj_w (p1 - 4)) ∧ (mj_w (p1 - 4)) < 17 then (mj_rI (kc d 161 [v_i (m4 35 0 ((mj_w (p1 - 4)).toNat)), v_i p2] m4) fun x5 m6 => if x5 = 0 then (some (some (v_i (-13)), m6)) else (some (some (v_i (mj_w (p1 - 4))), m6))) else (none)) else (some (some (v_i (-13)), m4))) else (some (some (v_i (-11)), m4))))) := (kd_unf [] 40).trans rfl
-- 163 NumbersCalled$Asker.become(IIII)V
set_option maxRecDepth 20000 in
theorem ke163_0 (d : Nat) (i0 : Nat) (p1 : Int) (p2 : Int) (p3 : Int) (p4 : Int) (μ : mj_M) : kc (d + 1) 163 [v_r 7 i0, v_i p1, v_i p2, v_i p3, v_i p4] μ = some (none, mj_up (mj_up (mj_up (mj_up μ 7 i0 0 p1) 7 i0 1 p2) 7 i0 2 p3) 7 i0 3 p4) := (kd_unf [] 40).trans rfl
-- 164 NumbersCalled$Asker.isA(I)Z
set_option maxRecDepth 20000 in
theorem ke164_0 (d : Nat) (i0 : Nat) (p1 : Int) (μ : mj_M) : kc (d + 1) 164 [v_r 7 i0, v_i p1] μ = kd d 164 1 [some (v_r 7 i0), some (v_i p1), some (v_i (μ 7 i0 0)), some (v_i 0)] [] μ := (kd_unf [1] 40).trans rfl
set_option maxRecDepth 20000 in
theorem ke164_1 (d : Nat) (o0 : Option mj_V) (a1 : Int) (a2 : Int) (a3 : Int) (μ : mj_M) : kd d 164 1 [o0, some (v_i a1), some (v_i a2), some (v_i a3)] [] μ = if a3 < 6 then (if a2 < 0 then (some (some (v_i 0), μ)) else (if a2 < 6 then (if a2 = a1 then (some (some (v_i 1), μ)) else (mj_tb4 mk_TB 1 a2 fun x1 => kd d 164 1 [none, some (v_i a1), some (v_i x1), some (v_i (mj_w (a3 + 1)))] [] μ)) else (some (some (v_i 0), μ)))) else (some (some (v_i 0), μ)) := (kd_unf [1] 40).trans rfl
end
section
/-! printed by wip/whole/eqs.py: what each cut of each method comes to -/
-- 165 NumbersCalled$Asker.isOld()Z
set_option maxRecDepth 20000 in
theorem ke165_0 (d : Nat) (i0 : Nat) (μ : mj_M) : kc (d + 1) 165 [v_r 7 i0] μ = if (μ 7 i0 0) = 4 then (some (some (v_i 1), μ)) else (some (some (v_i 0), μ)) := (kd_unf [] 40).trans rfl
-- 166 NumbersCalled$Asker.isBack()Z
set_option maxRecDepth 20000 in
theorem ke166_0 (d : Nat) (i0 : Nat) (μ : mj_M) : kc (d + 1) 166 [v_r 7 i0] μ = if (μ 7 i0 0) = 3 then (some (some (v_i 1), μ)) else (some (some (v_i 0), μ)) := (kd_unf [] 40).trans rfl
-- 167 NumbersCalled$Asker.needs()I
set_option maxRecDepth 20000 in
theorem ke167_0 (d : Nat) (i0 : Nat) (μ : mj_M) : kc (d + 1) 167 [v_r 7 i0] μ = if (μ 7 i0 0) = 2 then (some (some (v_i ((mj_w ((μ 7 i0 1) + 1)).tmod 4)), μ)) else (some (some (v_i (μ 7 i0 1)), μ)) := (kd_unf [] 40).trans rfl
-- 168 NumbersCalled$Asker.isThere(II)Z
set_option maxRecDepth 20000 in
theorem ke168_0 (d : Nat) (i0 : Nat) (p1 : Int) (p2 : Int) (μ : mj_M) : kc (d + 1) 168 [v_r 7 i0, v_i p1, v_i p2] μ = if (μ 7 i0 0) = 5 then (if p1 < 30 then (kd d 168 1 [some (v_r 7 i0), some (v_i p1), some (v_i p2), none] [] μ) else (some (some (v_i 1), μ))) else (kd d 168 1 [some (v_r 7 i0), some (v_i p1), some (v_i p2), none] [] μ) := (kd_unf [1, 5] 40).trans rfl
set_option maxRecDepth 20000 in
theorem ke168_1 (d : Nat) (i0 : Nat) (a1 : Int) (a2 : Int) (o3 : Option mj_V) (μ : mj_M) : kd d 168 1 [some (v_r 7 i0), some (v_i a1), some (v_i a2), o3] [] μ = mj_rI (kc d 45 [v_i a2, v_i 0, v_i 999] μ) fun x1 m2 => if x1 < a1 then (some (some (v_i 0), m2)) else (if (m2 7 i0 0) = 1 then (kd d 168 5 [some (v_r 7 i0), some (v_i a1), none, none] [v_i 1] m2) else (if (m2 7 i0 0) = 5 then (kd d 168 5 [some (v_r 7 i0), some (v_i a1), none, none] [v_i 1] m2) else (kd d 168 5 [some (v_r 7 i0), some (v_i a1), none, none] [v_i 0] m2))) := (kd_unf [1, 5] 40).trans rfl
set_option maxRecDepth 20000 in
theorem ke168_5 (d : Nat) (i0 : Nat) (a1 : Int) (o2 : Option mj_V) (o3 : Option mj_V) (s0 : Int) (μ : mj_M) : kd d 168 5 [some (v_r 7 i0), some (v_i a1), o2, o3] [v_i s0] μ = if s0 = 0 then (some (some (v_i 1), μ)) else (if (if 2 < (mj_w ((μ 7 i0 3) + 2)) then mj_w ((μ 7 i0 3) + 2) else 2) = 0 then (none) else (if ((mj_w (a1.tdiv (if 2 < (mj_w ((μ 7 i0 3) + 2)) then mj_w ((μ 7 i0 3) + 2) else 2))).tmod 2) = 0 then (some (some (v_i 1), μ)) else (some (some (v_i 0), μ)))) := (kd_unf [1, 5] 40).trans rfl
-- 169 NumbersCalled$Asker.takes(IZ)I
set_option maxRecDepth 20000 in
theorem ke169_0 (d : Nat) (i0 : Nat) (p1 : Int) (p2 : Int) (μ : mj_M) : kc (d + 1) 169 [v_r 7 i0, v_i p1, v_i p2] μ = mj_rI (kc d 45 [v_i p1, v_i 1, v_i 60] μ) fun x1 m2 => if (m2 7 i0 0) = 3 then (if p2 = 0 then (mj_rI (kc d 45 [v_i (mj_w (2 * x1)), v_i 1, v_i 60] m2) fun x3 m4 => some (some (v_i x3), m4)) else (some (some (v_i x1), m2))) else (some (some (v_i x1), m2)) := (kd_unf [] 40).trans rfl
-- 170 NumbersCalled$Day.run([LNumbersCalled$Asker;LNumbersCalled$Text;)V
set_option maxRecDepth 20000 in
theorem ke170_0 (d : Nat) (i2 : Nat) (μ : mj_M) : kc (d + 1) 170 [v_r 21 0, v_r 6 0, v_r 9 i2] μ = mj_rV (kc d 171 [v_r 21 0, v_r 6 0] μ) fun m1 => kd d 170 1 [some (v_r 21 0), some (v_r 6 0), some (v_r 9 i2), some (v_i 0), none, none] [] m1 := (kd_unf [1, 3] 40).trans rfl
set_option maxRecDepth 20000 in
theorem ke170_1 (d : Nat) (i2 : Nat) (a3 : Int) (o4 : Option mj_V) (o5 : Option mj_V) (μ : mj_M) : kd d 170 1 [some (v_r 21 0), some (v_r 6 0), some (v_r 9 i2), some (v_i a3), o4, o5] [] μ = if a3 < 240 then (if 0 < (μ 21 0 10) then (mj_rV (kc d 174 [v_r 21 0, v_i a3] μ) fun m1 => kd d 170 3 [some (v_r 21 0), some (v_r 6 0), some (v_r 9 i2), some (v_i a3), some (v_i 0), none] [] m1) else (kd d 170 3 [some (v_r 21 0), some (v_r 6 0), some (v_r 9 i2), some (v_i a3), some (v_i 0), none] [] μ)) else (some (none, μ)) := (kd_unf [1, 3] 40).trans rfl
set_option maxRecDepth 20000 in
theorem ke170_3 (d : Nat) (i2 : Nat) (a3 : Int) (a4 : Int) (o5 : Option mj_V) (μ : mj_M) : kd d 170 3 [some (v_r 21 0), some (v_r 6 0), some (v_r 9 i2), some (v_i a3), some (v_i a4), o5] [] μ = if a4 < (μ 1 2 0) then (if 0 ≤ a4 ∧ a4 < 4 then (if a3 < (μ 29 0 a4.toNat) then (kd d 170 3 [some (v_r 21 0), some (v_r 6 0), some (v_r 9 i2), some (v_i a3), some (v_i (mj_w (a4 + 1))), none] [] μ) else (mj_rI (kc d 193 [v_r 1 2, v_i a4, v_i a3] μ) fun x1 m2 => if x1 = 0 then (if 0 ≤ a4 ∧ a4 < 4 then (mj_rI (kc d 176 [v_r 21 0, v_i (m2 2 2 a4.toNat)] m2) fun x3 m4 => if x3 = (-1) then (if 0 ≤ a4 ∧ a4 < 4 then (if 0 ≤ a4 ∧ a4 < 4 then (kd d 170 3 [some (v_r 21 0), some (v_r 6 0), some (v_r 9 i2), some (v_i a3), some (v_i (mj_w (a4 + 1))), none] [] (mj_up m4 27 0 a4.toNat (mj_w ((m4 27 0 a4.toNat) + 1)))) else (none)) else (none)) else (if 0 ≤ x3 ∧ x3 < 16 then (mj_rV (kc d 177 [v_r 21 0, v_r 7 x3.toNat, v_r 9 i2, v_i x3, v_i a4, v_i a3] m4) fun m5 => kd d 170 3 [some (v_r 21 0), some (v_r 6 0), some (v_r 9 i2), some (v_i a3), some (v_i (mj_w (a4 + 1))), none] [] m5) else (none))) else (none)) else (kd d 170 3 [some (v_r 21 0), some (v_r 6 0), some (v_r 9 i2), some (v_i a3), some (v_i (mj_w (a4 + 1))), none] [] m2))) else (none)) else (kd d 170 1 [some (v_r 21 0), some (v_r 6 0), some (v_r 9 i2), some (v_i (mj_w (a3 + 1))), none, none] [] μ) := (kd_unf [1, 3] 40).trans rfl
-- 171 NumbersCalled$Day.begin([LNumbersCalled$Asker;)V
set_option maxRecDepth 20000 in
theorem ke171_0 (d : Nat)  (μ : mj_M) : kc (d + 1) 171 [v_r 21 0, v_r 6 0] μ = kd d 171 1 [some (v_r 21 0), some (v_r 6 0), some (v_i 0)] [] μ := (kd_unf [1, 3, 5] 40).trans rfl
set_option maxRecDepth 20000 in
theorem ke171_1 (d : Nat) (a2 : Int) (μ : mj_M) : kd d 171 1 [some (v_r 21 0), some (v_r 6 0), some (v_i a2)] [] μ = if a2 < (μ 1 2 0) then (if 0 ≤ a2 ∧ a2 < 4 then (if 0 ≤ a2 ∧ a2 < 4 then (kd d 171 1 [some (v_r 21 0), some (v_r 6 0), some (v_i (mj_w (a2 + 1)))] [] (mj_up (mj_up μ 29 0 a2.toNat 0) 27 0 a2.toNat 0)) else (none)) else (none)) else (kd d 171 3 [some (v_r 21 0), some (v_r 6 0), some (v_i 0)] [] μ) := (kd_unf [1, 3, 5] 40).trans rfl
set_option maxRecDepth 20000 in
theorem ke171_3 (d : Nat) (a2 : Int) (μ : mj_M) : kd d 171 3 [some (v_r 21 0), some (v_r 6 0), some (v_i a2)] [] μ = if a2 < (μ 1 2 4) then (if 0 ≤ a2 ∧ a2 < 16 then (if 0 ≤ a2 ∧ a2 < 16 then (if 0 ≤ a2 ∧ a2 < 16 then (if 0 ≤ a2 ∧ a2 < 16 then (if 0 ≤ a2 ∧ a2 < 16 then (if (μ 1 2 11) = 0 then (if 0 ≤ a2 ∧ a2 < 16 then (kd d 171 5 [some (v_r 21 0), some (v_r 6 0), some (v_i a2)] [v_i (μ 7 a2.toNat 1), v_i a2, v_r 28 0] (mj_up (mj_up (mj_up (mj_up (mj_up μ 22 0 a2.toNat 0) 23 0 a2.toNat (-1)) 24 0 a2.toNat (-1)) 25 0 a2.toNat (-1)) 26 0 a2.toNat 0)) else (none)) else (if 0 ≤ a2 ∧ a2 < 16 then (mj_rI (kc d 167 [v_r 7 a2.toNat] (mj_up (mj_up (mj_up (mj_up (mj_up μ 22 0 a2.toNat 0) 23 0 a2.toNat (-1)) 24 0 a2.toNat (-1)) 25 0 a2.toNat (-1)) 26 0 a2.toNat 0)) fun x1 m2 => kd d 171 5 [some (v_r 21 0), some (v_r 6 0), some (v_i a2)] [v_i x1, v_i a2, v_r 28 0] m2) else (none))) else (none)) else (none)) else (none)) else (none)) else (none)) else (some (none, mj_up (mj_up μ 21 0 10 (μ 1 2 4)) 21 0 11 0)) := (kd_unf [1, 3, 5] 40).trans rfl
set_option maxRecDepth 20000 in
theorem ke171_5 (d : Nat) (a2 : Int) (s0 : Int) (s1 : Int) (μ : mj_M) : kd d 171 5 [some (v_r 21 0), some (v_r 6 0), some (v_i a2)] [v_i s0, v_i s1, v_r 28 0] μ = if 0 ≤ s1 ∧ s1 < 16 then (if 0 ≤ a2 ∧ a2 < 16 then (mj_rI (kc d 172 [v_r 21 0, v_r 7 a2.toNat] (mj_up μ 28 0 s1.toNat s0)) fun x1 m2 => if 0 ≤ a2 ∧ a2 < 16 then (mj_rV (kc d 173 [v_r 21 0, v_i a2, v_i (mj_w ((mj_w ((mj_w ((mj_w (x1 * 120)) + (m2 5 2 a2.toNat))) * 16)) + a2))] m2) fun m3 => kd d 171 3 [some (v_r 21 0), some (v_r 6 0), some (v_i (mj_w (a2 + 1)))] [] m3) else (none)) else (none)) else (none) := (kd_unf [1, 3, 5] 40).trans rfl
-- 172 NumbersCalled$Day.rank(LNumbersCalled$Asker;)I
set_option maxRecDepth 20000 in
theorem ke172_0 (d : Nat) (i1 : Nat) (μ : mj_M) : kc (d + 1) 172 [v_r 21 0, v_r 7 i1] μ = if (μ 1 2 6) = 1 then (mj_rI (kc d 165 [v_r 7 i1] μ) fun x1 m2 => if x1 = 0 then (some (some (v_i 1), m2)) else (some (some (v_i 0), m2))) else if (μ 1 2 6) = 2 then (some (some (v_i (μ 7 i1 2)), μ)) else if (μ 1 2 6) = 3 then (mj_rI (kc d 166 [v_r 7 i1] μ) fun x3 m4 => if x3 = 0 then (some (some (v_i 1), m4)) else (some (some (v_i 0), m4))) else (some (some (v_i 0), μ)) := (kd_unf [] 40).trans rfl
-- 173 NumbersCalled$Day.lineUp(II)V
set_option maxRecDepth 20000 in
theorem ke173_0 (d : Nat) (p1 : Int) (p2 : Int) (μ : mj_M) : kc (d + 1) 173 [v_r 21 0, v_i p1, v_i p2] μ = kd d 173 1 [some (v_r 21 0), some (v_i p1), some (v_i p2), some (v_i p1)] [] μ := (kd_unf [1] 40).trans rfl
set_option maxRecDepth 20000 in
theorem ke173_1 (d : Nat) (o1 : Option mj_V) (a2 : Int) (a3 : Int) (μ : mj_M) : kd d 173 1 [some (v_r 21 0), o1, some (v_i a2), some (v_i a3)] [] μ = if 0 < a3 then (if 0 ≤ (mj_w (a3 - 1)) ∧ (mj_w (a3 - 1)) < 16 then (if a2 < (μ 30 0 ((mj_w (a3 - 1)).toNat)) then (if 0 ≤ (mj_w (a3 - 1)) ∧ (mj_w (a3 - 1)) < 16 then (if 0 ≤ a3 ∧ a3 < 16 then (kd d 173 1 [some (v_r 21 0), none, some (v_i a2), some (v_i (mj_w (a3 + (-1))))] [] (mj_up μ 30 0 a3.toNat (μ 30 0 ((mj_w (a3 - 1)).toNat)))) else (none)) else (none)) else (if 0 ≤ a3 ∧ a3 < 16 then (some (none, mj_up μ 30 0 a3.toNat a2)) else (none))) else (none)) else (if 0 ≤ a3 ∧ a3 < 16 then (some (none, mj_up μ 30 0 a3.toNat a2)) else (none)) := (kd_unf [1] 40).trans rfl
-- 174 NumbersCalled$Day.letIn(I)V
set_option maxRecDepth 20000 in
theorem ke174_0 (d : Nat) (p1 : Int) (μ : mj_M) : kc (d + 1) 174 [v_r 21 0, v_i p1] μ = kd d 174 1 [some (v_r 21 0), some (v_i p1), some (v_i 0)] [] μ := (kd_unf [1] 40).trans rfl
set_option maxRecDepth 20000 in
theorem ke174_1 (d : Nat) (a1 : Int) (a2 : Int) (μ : mj_M) : kd d 174 1 [some (v_r 21 0), some (v_i a1), some (v_i a2)] [] μ = if a2 < (μ 1 2 4) then (if 0 ≤ a2 ∧ a2 < 16 then (if (μ 5 2 a2.toNat) = a1 then (if a1 < (μ 1 2 8) then (if 0 ≤ a2 ∧ a2 < 16 then (kd d 174 1 [some (v_r 21 0), some (v_i a1), some (v_i (mj_w (a2 + 1)))] [] (mj_up (mj_up μ 22 0 a2.toNat 1) 21 0 10 (mj_w ((μ 21 0 10) - 1)))) else (none)) else (if 0 ≤ a2 ∧ a2 < 16 then (kd d 174 1 [some (v_r 21 0), some (v_i a1), some (v_i (mj_w (a2 + 1)))] [] (mj_up (mj_up μ 22 0 a2.toNat 4) 21 0 10 (mj_w ((μ 21 0 10) - 1)))) else (none))) else (kd d 174 1 [some (v_r 21 0), some (v_i a1), some (v_i (mj_w (a2 + 1)))] [] μ)) else (none)) else (mj_rV (kc d 175 [v_r 21 0] μ) fun m1 => some (none, m1)) := (kd_unf [1] 40).trans rfl
-- 175 NumbersCalled$Day.lookAround()V
set_option maxRecDepth 20000 in
theorem ke175_0 (d : Nat)  (μ : mj_M) : kc (d + 1) 175 [v_r 21 0] μ = kd d 175 1 [some (v_r 21 0), some (v_i 0)] [] (mj_up μ 21 0 11 0) := (kd_unf [1] 40).trans rfl
set_option maxRecDepth 20000 in
theorem ke175_1 (d : Nat) (a1 : Int) (μ : mj_M) : kd d 175 1 [some (v_r 21 0), some (v_i a1)] [] μ = if a1 < (μ 1 2 4) then (if 0 ≤ a1 ∧ a1 < 16 then (if (μ 22 0 a1.toNat) = 1 then (if 0 ≤ a1 ∧ a1 < 16 then (if (0 : Int) ≤ (μ 28 0 a1.toNat) ∧ (μ 28 0 a1.toNat) < (32 : Int) then (if (0 : Int) ≤ (μ 21 0 11) ∧ (0 : Int) ≤ (mj_w (1 * 2 ^ (μ 28 0 a1.toNat).toNat)) then (kd d 175 1 [some (v_r 21 0), some (v_i (mj_w (a1 + 1)))] [] (mj_up μ 21 0 11 (((μ 21 0 11).toNat ||| (mj_w (1 * 2 ^ (μ 28 0 a1.toNat).toNat)).toNat : Nat) : Int))) else (none)) else (none)) else (none)) else (kd d 175 1 [some (v_r 21 0), some (v_i (mj_w (a1 + 1)))] [] μ)) else (none)) else (some (none, μ)) := (kd_unf [1] 40).trans rfl
-- 176 NumbersCalled$Day.firstFor(I)I
set_option maxRecDepth 20000 in
theorem ke176_0 (d : Nat) (p1 : Int) (μ : mj_M) : kc (d + 1) 176 [v_r 21 0, v_i p1] μ = if (0 : Int) ≤ p1 ∧ (0 : Int) ≤ (μ 21 0 11) then (if ((p1.toNat &&& (μ 21 0 11).toNat : Nat) : Int) = 0 then (some (some (v_i (-1)), μ)) else (kd d 176 2 [some (v_r 21 0), some (v_i p1), some (v_i 0), none] [] μ)) else (none) := (kd_unf [2] 40).trans rfl
set_option maxRecDepth 20000 in
theorem ke176_2 (d : Nat) (a1 : Int) (a2 : Int) (o3 : Option mj_V) (μ : mj_M) : kd d 176 2 [some (v_r 21 0), some (v_i a1), some (v_i a2), o3] [] μ = if a2 < (μ 1 2 4) then (if 0 ≤ a2 ∧ a2 < 16 then (if 0 ≤ ((μ 30 0 a2.toNat).tmod 16) ∧ ((μ 30 0 a2.toNat).tmod 16) < 16 then (if (μ 22 0 (((μ 30 0 a2.toNat).tmod 16).toNat)) = 1 then (if 0 ≤ ((μ 30 0 a2.toNat).tmod 16) ∧ ((μ 30 0 a2.toNat).tmod 16) < 16 then (if (0 : Int) ≤ (μ 28 0 (((μ 30 0 a2.toNat).tmod 16).toNat)) ∧ (μ 28 0 (((μ 30 0 a2.toNat).tmod 16).toNat)) < (32 : Int) then (if (0 : Int) ≤ (a1 / 2 ^ (μ 28 0 (((μ 30 0 a2.toNat).tmod 16).toNat)).toNat) ∧ (0 : Int) ≤ 1 then (if (((a1 / 2 ^ (μ 28 0 (((μ 30 0 a2.toNat).tmod 16).toNat)).toNat).toNat &&& 1 : Nat) : Int) = 1 then (some (some (v_i ((μ 30 0 a2.toNat).tmod 16)), μ)) else (kd d 176 2 [some (v_r 21 0), some (v_i a1), some (v_i (mj_w (a2 + 1))), none] [] μ)) else (none)) else (none)) else (none)) else (kd d 176 2 [some (v_r 21 0), some (v_i a1), some (v_i (mj_w (a2 + 1))), none] [] μ)) else (none)) else (none)) else (some (some (v_i (-1)), μ)) := (kd_unf [2] 40).trans rfl
-- 177 NumbersCalled$Day.beckon(LNumbersCalled$Asker;LNumbersCalled$Text;III)V
set_option maxRecDepth 20000 in
theorem ke177_0 (d : Nat) (i1 : Nat) (i2 : Nat) (p3 : Int) (p4 : Int) (p5 : Int) (μ : mj_M) : kc (d + 1) 177 [v_r 21 0, v_r 7 i1, v_r 9 i2, v_i p3, v_i p4, v_i p5] μ = if 0 ≤ p3 ∧ p3 < 16 then (if 0 ≤ p3 ∧ p3 < 16 then (if 0 ≤ p3 ∧ p3 < 16 then (mj_rI (kc d 215 [v_r 9 i2, v_i 1, v_r 7 i1, v_i (mj_w (p5 - (μ 5 2 p3.toNat))), v_i 0, v_i 0] (mj_up μ 26 0 p3.toNat (mj_w ((μ 26 0 p3.toNat) + 1)))) fun x1 m2 => mj_rI (kc d 168 [v_r 7 i1, v_i (mj_w (p5 - (μ 5 2 p3.toNat))), v_i x1] m2) fun x3 m4 => if x3 = 0 then (if 0 ≤ p3 ∧ p3 < 16 then (if (m4 26 0 p3.toNat) < (m4 1 2 7) then (mj_rV (kc d 175 [v_r 21 0] m4) fun m15 => some (none, m15)) else (if 0 ≤ p3 ∧ p3 < 16 then (mj_rV (kc d 175 [v_r 21 0] (mj_up m4 22 0 p3.toNat 3)) fun m16 => some (none, m16)) else (none))) else (none)) else (if 0 ≤ p4 ∧ p4 < 4 then (mj_rI (kc d 167 [v_r 7 i1] m4) fun x5 m6 => if (0 : Int) ≤ x5 ∧ x5 < (32 : Int) then (if (0 : Int) ≤ ((m4 2 2 p4.toNat) / 2 ^ x5.toNat) ∧ (0 : Int) ≤ 1 then (if ((((m4 2 2 p4.toNat) / 2 ^ x5.toNat).toNat &&& 1 : Nat) : Int) = 0 then (mj_rI (kc d 167 [v_r 7 i1] m6) fun x12 m13 => if 0 ≤ p3 ∧ p3 < 16 then (mj_rV (kc d 175 [v_r 21 0] (mj_up m13 28 0 p3.toNat x12)) fun m14 => some (none, m14)) else (none)) else (if 0 ≤ p4 ∧ p4 < 4 then (mj_rI (kc d 215 [v_r 9 i2, v_i 0, v_r 7 i1, v_i (mj_w (p5 - (μ 5 2 p3.toNat))), v_i (m6 3 2 p4.toNat), v_i 0] m6) fun x7 m8 => if 0 ≤ p3 ∧ p3 < 16 then (if 0 ≤ p3 ∧ p3 < 16 then (mj_rI (kc d 169 [v_r 7 i1, v_i x7, v_i (m8 1 2 10)] (mj_up (mj_up m8 22 0 p3.toNat 2) 23 0 p3.toNat p5)) fun x9 m10 => if 0 ≤ p3 ∧ p3 < 16 then (if 0 ≤ p3 ∧ p3 < 16 then (if 0 ≤ p3 ∧ p3 < 16 then (if 0 ≤ p4 ∧ p4 < 4 then (mj_rV (kc d 175 [v_r 21 0] (mj_up (mj_up (mj_up m10 24 0 p3.toNat (mj_w (p5 + x9))) 25 0 p3.toNat p4) 29 0 p4.toNat ((mj_up m10 24 0 p3.toNat (mj_w (p5 + x9))) 24 0 p3.toNat))) fun m11 => some (none, m11)) else (none)) else (none)) else (none)) else (none)) else (none)) else (none)) else (none))) else (none)) else (none)) else (none))) else (none)) else (none)) else (none) := (kd_unf [] 40).trans rfl
-- 178 NumbersCalled$Day.waited(I)I
set_option maxRecDepth 20000 in
theorem ke178_0 (d : Nat) (p1 : Int) (μ : mj_M) : kc (d + 1) 178 [v_r 21 0, v_i p1] μ = if 0 ≤ p1 ∧ p1 < 16 then (if (μ 22 0 p1.toNat) = 2 then (if 0 ≤ p1 ∧ p1 < 16 then (if 0 ≤ p1 ∧ p1 < 16 then (some (some (v_i (mj_w ((μ 23 0 p1.toNat) - (μ 5 2 p1.toNat)))), μ)) else (none)) else (none)) else (some (some (v_i (-1)), μ))) else (none) := (kd_unf [] 40).trans rfl
-- 179 NumbersCalled$Day.badFor(I)I
set_option maxRecDepth 20000 in
theorem ke179_0 (d : Nat) (p1 : Int) (μ : mj_M) : kc (d + 1) 179 [v_r 21 0, v_i p1] μ = if 0 ≤ p1 ∧ p1 < 16 then (if (μ 22 0 p1.toNat) = 2 then (mj_rI (kc d 178 [v_r 21 0, v_i p1] μ) fun x1 m2 => some (some (v_i x1), m2)) else (some (some (v_i 120), μ))) else (none) := (kd_unf [] 40).trans rfl
-- 180 NumbersCalled$Day.many(I)I
set_option maxRecDepth 20000 in
theorem ke180_0 (d : Nat) (p1 : Int) (μ : mj_M) : kc (d + 1) 180 [v_r 21 0, v_i p1] μ = kd d 180 1 [some (v_r 21 0), some (v_i p1), some (v_i 0), some (v_i 0)] [] μ := (kd_unf [1] 40).trans rfl
set_option maxRecDepth 20000 in
theorem ke180_1 (d : Nat) (a1 : Int) (a2 : Int) (a3 : Int) (μ : mj_M) : kd d 180 1 [some (v_r 21 0), some (v_i a1), some (v_i a2), some (v_i a3)] [] μ = if a3 < (μ 1 2 4) then (if 0 ≤ a3 ∧ a3 < 16 then (if (μ 22 0 a3.toNat) = a1 then (kd d 180 1 [some (v_r 21 0), some (v_i a1), some (v_i (mj_w (a2 + 1))), some (v_i (mj_w (a3 + 1)))] [] μ) else (kd d 180 1 [some (v_r 21 0), some (v_i a1), some (v_i a2), some (v_i (mj_w (a3 + 1)))] [] μ)) else (none)) else (some (some (v_i a2), μ)) := (kd_unf [1] 40).trans rfl
-- 181 NumbersCalled$Day.allWaits()I
set_option maxRecDepth 20000 in
theorem ke181_0 (d : Nat)  (μ : mj_M) : kc (d + 1) 181 [v_r 21 0] μ = kd d 181 1 [some (v_r 21 0), some (v_i 0), some (v_i 0)] [] μ := (kd_unf [1] 40).trans rfl
set_option maxRecDepth 20000 in
theorem ke181_1 (d : Nat) (a1 : Int) (a2 : Int) (μ : mj_M) : kd d 181 1 [some (v_r 21 0), some (v_i a1), some (v_i a2)] [] μ = if a2 < (μ 1 2 4) then (if 0 ≤ a2 ∧ a2 < 16 then (if (μ 22 0 a2.toNat) = 2 then (mj_rI (kc d 178 [v_r 21 0, v_i a2] μ) fun x1 m2 => kd d 181 1 [some (v_r 21 0), some (v_i (mj_w (a1 + x1))), some (v_i (mj_w (a2 + 1)))] [] m2) else (kd d 181 1 [some (v_r 21 0), some (v_i a1), some (v_i (mj_w (a2 + 1)))] [] μ)) else (none)) else (some (some (v_i a1), μ)) := (kd_unf [1] 40).trans rfl
-- 182 NumbersCalled$Day.longest()I
set_option maxRecDepth 20000 in
theorem ke182_0 (d : Nat)  (μ : mj_M) : kc (d + 1) 182 [v_r 21 0] μ = kd d 182 1 [some (v_r 21 0), some (v_i 0), some (v_i 0)] [] μ := (kd_unf [1] 40).trans rfl
set_option maxRecDepth 20000 in
theorem ke182_1 (d : Nat) (a1 : Int) (a2 : Int) (μ : mj_M) : kd d 182 1 [some (v_r 21 0), some (v_i a1), some (v_i a2)] [] μ = if a2 < (μ 1 2 4) then (mj_rI (kc d 178 [v_r 21 0, v_i a2] μ) fun x1 m2 => kd d 182 1 [some (v_r 21 0), some (v_i (if a1 < x1 then x1 else a1)), some (v_i (mj_w (a2 + 1)))] [] m2) else (some (some (v_i a1), μ)) := (kd_unf [1] 40).trans rfl
-- 183 NumbersCalled$Day.latestEnd()I
set_option maxRecDepth 20000 in
theorem ke183_0 (d : Nat)  (μ : mj_M) : kc (d + 1) 183 [v_r 21 0] μ = kd d 183 1 [some (v_r 21 0), some (v_i 0), some (v_i 0)] [] μ := (kd_unf [1] 40).trans rfl
set_option maxRecDepth 20000 in
theorem ke183_1 (d : Nat) (a1 : Int) (a2 : Int) (μ : mj_M) : kd d 183 1 [some (v_r 21 0), some (v_i a1), some (v_i a2)] [] μ = if a2 < (μ 1 2 4) then (if 0 ≤ a2 ∧ a2 < 16 then (kd d 183 1 [some (v_r 21 0), some (v_i (if a1 < (μ 24 0 a2.toNat) then μ 24 0 a2.toNat else a1)), some (v_i (mj_w (a2 + 1)))] [] μ) else (none)) else (some (some (v_i a1), μ)) := (kd_unf [1] 40).trans rfl
-- 184 NumbersCalled$Day.allIdled()I
set_option maxRecDepth 20000 in
theorem ke184_0 (d : Nat)  (μ : mj_M) : kc (d + 1) 184 [v_r 21 0] μ = kd d 184 1 [some (v_r 21 0), some (v_i 0), some (v_i 0)] [] μ := (kd_unf [1] 40).trans rfl
set_option maxRecDepth 20000 in
theorem ke184_1 (d : Nat) (a1 : Int) (a2 : Int) (μ : mj_M) : kd d 184 1 [some (v_r 21 0), some (v_i a1), some (v_i a2)] [] μ = if a2 < (μ 1 2 0) then (if 0 ≤ a2 ∧ a2 < 4 then (kd d 184 1 [some (v_r 21 0), some (v_i (mj_w (a1 + (μ 27 0 a2.toNat)))), some (v_i (mj_w (a2 + 1)))] [] μ) else (none)) else (some (some (v_i a1), μ)) := (kd_unf [1] 40).trans rfl
-- 185 NumbersCalled$Day.harm()I
set_option maxRecDepth 20000 in
theorem ke185_0 (d : Nat)  (μ : mj_M) : kc (d + 1) 185 [v_r 21 0] μ = mj_rI (kc d 181 [v_r 21 0] μ) fun x1 m2 => mj_rI (kc d 180 [v_r 21 0, v_i 2] m2) fun x3 m4 => some (some (v_i (mj_w (x1 + (mj_w (60 * (mj_w ((m2 1 2 4) - x3))))))), m4) := (kd_unf [] 40).trans rfl
-- 186 NumbersCalled$Day.isOver(I)Z
set_option maxRecDepth 20000 in
theorem ke186_0 (d : Nat) (p1 : Int) (μ : mj_M) : kc (d + 1) 186 [v_r 21 0, v_i p1] μ = mj_rI (kc d 183 [v_r 21 0] μ) fun x1 m2 => if p1 < x1 then (some (some (v_i 0), m2)) else (mj_rI (kc d 180 [v_r 21 0, v_i 1] m2) fun x3 m4 => if x3 = 0 then (some (some (v_i 1), m4)) else (some (some (v_i 0), m4))) := (kd_unf [] 40).trans rfl
-- 187 NumbersCalled$Day.total(I)I
set_option maxRecDepth 20000 in
theorem ke187_0 (d : Nat) (p1 : Int) (μ : mj_M) : kc (d + 1) 187 [v_r 21 0, v_i p1] μ = if p1 = 0 then (mj_rI (kc d 180 [v_r 21 0, v_i 2] μ) fun x1 m2 => some (some (v_i x1), m2)) else if p1 = 1 then (mj_rI (kc d 181 [v_r 21 0] μ) fun x3 m4 => some (some (v_i x3), m4)) else if p1 = 2 then (mj_rI (kc d 182 [v_r 21 0] μ) fun x5 m6 => some (some (v_i x5), m6)) else if p1 = 3 then (mj_rI (kc d 183 [v_r 21 0] μ) fun x7 m8 => some (some (v_i x7), m8)) else if p1 = 4 then (mj_rI (kc d 180 [v_r 21 0, v_i 3] μ) fun x9 m10 => some (some (v_i x9), m10)) else if p1 = 5 then (mj_rI (kc d 180 [v_r 21 0, v_i 4] μ) fun x11 m12 => some (some (v_i x11), m12)) else if p1 = 6 then (mj_rI (kc d 180 [v_r 21 0, v_i 1] μ) fun x13 m14 => some (some (v_i x13), m14)) else (mj_rI (kc d 184 [v_r 21 0] μ) fun x15 m16 => some (some (v_i x15), m16)) := (kd_unf [] 40).trans rfl
-- 188 NumbersCalled$Least.start()V
set_option maxRecDepth 20000 in
theorem ke188_0 (d : Nat)  (μ : mj_M) : kc (d + 1) 188 [v_r 31 0] μ = some (none, mj_up (mj_up μ 31 0 0 (-1)) 31 0 1 2147483647) := (kd_unf [] 40).trans rfl
-- 189 NumbersCalled$Least.offer(II)V
set_option maxRecDepth 20000 in
theorem ke189_0 (d : Nat) (p1 : Int) (p2 : Int) (μ : mj_M) : kc (d + 1) 189 [v_r 31 0, v_i p1, v_i p2] μ = if p2 < (μ 31 0 1) then (some (none, mj_up (mj_up μ 31 0 0 p1) 31 0 1 p2)) else (some (none, μ)) := (kd_unf [] 40).trans rfl
-- 190 NumbersCalled$Least.tell(I)I
set_option maxRecDepth 20000 in
theorem ke190_0 (d : Nat) (p1 : Int) (μ : mj_M) : kc (d + 1) 190 [v_r 31 0, v_i p1] μ = if p1 = 0 then (some (some (v_i (μ 31 0 0)), μ)) else (some (some (v_i (μ 31 0 1)), μ)) := (kd_unf [] 40).trans rfl
-- 191 NumbersCalled$Plan.become(LNumbersCalled$Plan;)V
set_option maxRecDepth 20000 in
theorem ke191_0 (d : Nat) (i0 : Nat) (i1 : Nat) (μ : mj_M) : kc (d + 1) 191 [v_r 1 i0, v_r 1 i1] μ = kd d 191 1 [some (v_r 1 i0), some (v_r 1 i1), some (v_i 0)] [] (mj_up μ 1 i0 0 (μ 1 i1 0)) := (kd_unf [1, 3] 40).trans rfl
set_option maxRecDepth 20000 in
theorem ke191_1 (d : Nat) (i0 : Nat) (i1 : Nat) (a2 : Int) (μ : mj_M) : kd d 191 1 [some (v_r 1 i0), some (v_r 1 i1), some (v_i a2)] [] μ = if a2 < 4 then (if 0 ≤ a2 ∧ a2 < 4 then (if 0 ≤ a2 ∧ a2 < 4 then (if 0 ≤ a2 ∧ a2 < 4 then (if 0 ≤ a2 ∧ a2 < 4 then (if 0 ≤ a2 ∧ a2 < 4 then (if 0 ≤ a2 ∧ a2 < 4 then (kd d 191 1 [some (v_r 1 i0), some (v_r 1 i1), some (v_i (mj_w (a2 + 1)))] [] (mj_up (mj_up (mj_up μ 2 i0 a2.toNat (μ 2 i1 a2.toNat)) 3 i0 a2.toNat (μ 3 i1 a2.toNat)) 4 i0 a2.toNat (μ 4 i1 a2.toNat))) else (none)) else (none)) else (none)) else (none)) else (none)) else (none)) else (kd d 191 3 [some (v_r 1 i0), some (v_r 1 i1), some (v_i 0)] [] (mj_up μ 1 i0 4 (μ 1 i1 4))) := (kd_unf [1, 3] 40).trans rfl
set_option maxRecDepth 20000 in
theorem ke191_3 (d : Nat) (i0 : Nat) (i1 : Nat) (a2 : Int) (μ : mj_M) : kd d 191 3 [some (v_r 1 i0), some (v_r 1 i1), some (v_i a2)] [] μ = if a2 < 16 then (if 0 ≤ a2 ∧ a2 < 16 then (if 0 ≤ a2 ∧ a2 < 16 then (kd d 191 3 [some (v_r 1 i0), some (v_r 1 i1), some (v_i (mj_w (a2 + 1)))] [] (mj_up μ 5 i0 a2.toNat (μ 5 i1 a2.toNat))) else (none)) else (none)) else (if (μ 1 i1 10) = 0 ∨ (μ 1 i1 10) = 1 then (if (μ 1 i1 11) = 0 ∨ (μ 1 i1 11) = 1 then (some (none, mj_up (mj_up (mj_up (mj_up (mj_up (mj_up μ 1 i0 6 (μ 1 i1 6)) 1 i0 7 (μ 1 i1 7)) 1 i0 8 (μ 1 i1 8)) 1 i0 9 (μ 1 i1 9)) 1 i0 10 (μ 1 i1 10)) 1 i0 11 (μ 1 i1 11))) else (none)) else (none)) := (kd_unf [1, 3] 40).trans rfl
-- 192 NumbersCalled$Plan.teach(I)V
set_option maxRecDepth 20000 in
theorem ke192_0 (d : Nat) (i0 : Nat) (p1 : Int) (μ : mj_M) : kc (d + 1) 192 [v_r 1 i0, v_i p1] μ = mj_rI (kc d 44 [v_i p1, v_i 0, v_i 15] μ) fun x1 m2 => if x1 = 0 then (some (none, m2)) else (if 0 ≤ (mj_w (p1.tdiv 4)) ∧ (mj_w (p1.tdiv 4)) < 4 then (if (0 : Int) ≤ (p1.tmod 4) ∧ (p1.tmod 4) < (32 : Int) then (if (0 : Int) ≤ (m2 2 i0 ((mj_w (p1.tdiv 4)).toNat)) ∧ (0 : Int) ≤ (mj_w (1 * 2 ^ (p1.tmod 4).toNat)) then (if 0 ≤ (mj_w (p1.tdiv 4)) ∧ (mj_w (p1.tdiv 4)) < 4 then (some (none, mj_up m2 2 i0 ((mj_w (p1.tdiv 4)).toNat) (((m2 2 i0 ((mj_w (p1.tdiv 4)).toNat)).toNat ||| (mj_w (1 * 2 ^ (p1.tmod 4).toNat)).toNat : Nat) : Int))) else (none)) else (none)) else (none)) else (none)) := (kd_unf [] 40).trans rfl
-- 193 NumbersCalled$Plan.isPausing(II)Z
set_option maxRecDepth 20000 in
theorem ke193_0 (d : Nat) (i0 : Nat) (p1 : Int) (p2 : Int) (μ : mj_M) : kc (d + 1) 193 [v_r 1 i0, v_i p1, v_i p2] μ = if 0 ≤ p1 ∧ p1 < 4 then (if (μ 4 i0 p1.toNat) < 0 then (some (some (v_i 0), μ)) else (if 0 ≤ p1 ∧ p1 < 4 then (if 0 ≤ p1 ∧ p1 < 4 then (mj_rI (kc d 44 [v_i p2, v_i (μ 4 i0 p1.toNat), v_i (mj_w ((mj_w ((μ 4 i0 p1.toNat) + 10)) - 1))] μ) fun x1 m2 => if x1 = 0 then (some (some (v_i 0), m2)) else (some (some (v_i 1), m2))) else (none)) else (none))) else (none) := (kd_unf [] 40).trans rfl
-- 194 NumbersCalled$Sheet.isMissing()Z
set_option maxRecDepth 20000 in
theorem ke194_0 (d : Nat) (i0 : Nat) (μ : mj_M) : kc (d + 1) 194 [v_r 19 i0] μ = if (μ 19 i0 0) = (-1) then (some (some (v_i 1), μ)) else (some (some (v_i 0), μ)) := (kd_unf [] 40).trans rfl
-- 195 NumbersCalled$Sheet.become(II)V
set_option maxRecDepth 20000 in
theorem ke195_0 (d : Nat) (i0 : Nat) (p1 : Int) (p2 : Int) (μ : mj_M) : kc (d + 1) 195 [v_r 19 i0, v_i p1, v_i p2] μ = kd d 195 1 [some (v_r 19 i0), some (v_i p1), some (v_i p2), some (v_i 0)] [] (mj_up (mj_up μ 19 i0 0 p1) 19 i0 1 p2) := (kd_unf [1] 40).trans rfl
set_option maxRecDepth 20000 in
theorem ke195_1 (d : Nat) (i0 : Nat) (o1 : Option mj_V) (o2 : Option mj_V) (a3 : Int) (μ : mj_M) : kd d 195 1 [some (v_r 19 i0), o1, o2, some (v_i a3)] [] μ = if a3 < 40 then (if 0 ≤ a3 ∧ a3 < 40 then (kd d 195 1 [some (v_r 19 i0), none, none, some (v_i (mj_w (a3 + 1)))] [] (mj_up μ 20 i0 a3.toNat 0)) else (none)) else (some (none, μ)) := (kd_unf [1] 40).trans rfl
-- 196 NumbersCalled$Sheet.write(II)V
set_option maxRecDepth 20000 in
theorem ke196_0 (d : Nat) (i0 : Nat) (p1 : Int) (p2 : Int) (μ : mj_M) : kc (d + 1) 196 [v_r 19 i0, v_i p1, v_i p2] μ = if (μ 19 i0 0) = 0 then (if 0 ≤ p1 ∧ p1 < 40 then (some (none, mj_up μ 20 i0 p1.toNat ((p2 + 128) % 256 - 128))) else (none)) else if (μ 19 i0 0) = 1 then (if 0 ≤ p1 ∧ p1 < 40 then (some (none, mj_up μ 20 i0 p1.toNat ((p2 + 32768) % 65536 - 32768))) else (none)) else (if 0 ≤ p1 ∧ p1 < 40 then (some (none, mj_up μ 20 i0 p1.toNat p2)) else (none)) := (kd_unf [] 40).trans rfl
-- 197 NumbersCalled$Tape.append(I)V
set_option maxRecDepth 20000 in
theorem ke197_0 (d : Nat) (p1 : Int) (μ : mj_M) : kc (d + 1) 197 [v_r 14 0, v_i p1] μ = if (μ 14 0 1) < 160 then (if 0 ≤ (μ 14 0 1) ∧ (μ 14 0 1) < 160 then (some (none, mj_up (mj_up μ 15 0 ((μ 14 0 1).toNat) p1) 14 0 1 (mj_w ((μ 14 0 1) + 1)))) else (none)) else (some (none, μ)) := (kd_unf [] 40).trans rfl
-- 198 NumbersCalled$Tape.read()I
set_option maxRecDepth 20000 in
theorem ke198_0 (d : Nat)  (μ : mj_M) : kc (d + 1) 198 [v_r 14 0] μ = mj_rV (kc d 208 [v_r 14 0] (mj_up (mj_up μ 14 0 4 0) 14 0 5 0)) fun m1 => kd d 198 1 [some (v_r 14 0), some (v_i 0)] [] m1 := (kd_unf [1] 40).trans rfl
set_option maxRecDepth 20000 in
theorem ke198_1 (d : Nat) (a1 : Int) (μ : mj_M) : kd d 198 1 [some (v_r 14 0), some (v_i a1)] [] μ = if 2 < a1 then (if (μ 14 0 7) = 14 then (some (some (v_i (-1)), μ)) else (some (some (v_i (μ 14 0 6)), μ))) else (mj_rI (kc d 199 [v_r 14 0, v_i a1] μ) fun x1 m2 => if x1 = 0 then (some (some (v_i (m2 14 0 6)), m2)) else (mj_rI (kc d 201 [v_r 14 0, v_i 0] m2) fun x3 m4 => if x3 = 0 then (some (some (v_i (m4 14 0 6)), m4)) else (mj_rI (kc d 199 [v_r 14 0, v_i 59] m4) fun x5 m6 => if x5 = 0 then (some (some (v_i (m6 14 0 6)), m6)) else (if 0 ≤ a1 ∧ a1 < 3 then (kd d 198 1 [some (v_r 14 0), some (v_i (mj_w (a1 + 1)))] [] (mj_up m6 17 0 a1.toNat (m6 14 0 4))) else (none))))) := (kd_unf [1] 40).trans rfl
-- 199 NumbersCalled$Tape.skip(I)Z
set_option maxRecDepth 20000 in
theorem ke199_0 (d : Nat) (p1 : Int) (μ : mj_M) : kc (d + 1) 199 [v_r 14 0, v_i p1] μ = if (μ 14 0 7) = p1 then (mj_rV (kc d 208 [v_r 14 0] μ) fun m1 => some (some (v_i 1), m1)) else (some (some (v_i 0), μ)) := (kd_unf [] 40).trans rfl
-- 200 NumbersCalled$Tape.tell(I)V
set_option maxRecDepth 20000 in
theorem ke200_0 (d : Nat) (p1 : Int) (μ : mj_M) : kc (d + 1) 200 [v_r 14 0, v_i p1] μ = if (μ 14 0 4) < 160 then (if 0 ≤ (μ 14 0 4) ∧ (μ 14 0 4) < 160 then (some (none, mj_up (mj_up μ 16 0 ((μ 14 0 4).toNat) p1) 14 0 4 (mj_w ((μ 14 0 4) + 1)))) else (none)) else (some (none, μ)) := (kd_unf [] 40).trans rfl
-- 201 NumbersCalled$Tape.readEither(I)Z
set_option maxRecDepth 20000 in
theorem ke201_0 (d : Nat) (p1 : Int) (μ : mj_M) : kc (d + 1) 201 [v_r 14 0, v_i p1] μ = mj_rI (kc d 202 [v_r 14 0, v_i p1] μ) fun x1 m2 => kd d 201 1 [some (v_r 14 0), some (v_i p1), some (v_i x1), some (v_i 0)] [] m2 := (kd_unf [1] 40).trans rfl
set_option maxRecDepth 20000 in
theorem ke201_1 (d : Nat) (a1 : Int) (a2 : Int) (a3 : Int) (μ : mj_M) : kd d 201 1 [some (v_r 14 0), some (v_i a1), some (v_i a2), some (v_i a3)] [] μ = if a3 < 160 then (if a2 = 0 then (if a2 = 0 ∨ a2 = 1 then (some (some (v_i a2), μ)) else (none)) else (if (μ 14 0 7) = 3 then (mj_rV (kc d 208 [v_r 14 0] μ) fun m1 => mj_rI (kc d 202 [v_r 14 0, v_i a1] m1) fun x2 m3 => mj_rV (kc d 200 [v_r 14 0, v_i (-4)] m3) fun m4 => kd d 201 1 [some (v_r 14 0), some (v_i a1), some (v_i x2), some (v_i (mj_w (a3 + 1)))] [] m4) else (if a2 = 0 ∨ a2 = 1 then (some (some (v_i a2), μ)) else (none)))) else (if a2 = 0 ∨ a2 = 1 then (some (some (v_i a2), μ)) else (none)) := (kd_unf [1] 40).trans rfl
-- 202 NumbersCalled$Tape.readBoth(I)Z
set_option maxRecDepth 20000 in
theorem ke202_0 (d : Nat) (p1 : Int) (μ : mj_M) : kc (d + 1) 202 [v_r 14 0, v_i p1] μ = mj_rI (kc d 203 [v_r 14 0, v_i p1] μ) fun x1 m2 => kd d 202 1 [some (v_r 14 0), some (v_i p1), some (v_i x1), some (v_i 0)] [] m2 := (kd_unf [1] 40).trans rfl
set_option maxRecDepth 20000 in
theorem ke202_1 (d : Nat) (a1 : Int) (a2 : Int) (a3 : Int) (μ : mj_M) : kd d 202 1 [some (v_r 14 0), some (v_i a1), some (v_i a2), some (v_i a3)] [] μ = if a3 < 160 then (if a2 = 0 then (if a2 = 0 ∨ a2 = 1 then (some (some (v_i a2), μ)) else (none)) else (if (μ 14 0 7) = 4 then (mj_rV (kc d 208 [v_r 14 0] μ) fun m1 => mj_rI (kc d 203 [v_r 14 0, v_i a1] m1) fun x2 m3 => mj_rV (kc d 200 [v_r 14 0, v_i (-5)] m3) fun m4 => kd d 202 1 [some (v_r 14 0), some (v_i a1), some (v_i x2), some (v_i (mj_w (a3 + 1)))] [] m4) else (if a2 = 0 ∨ a2 = 1 then (some (some (v_i a2), μ)) else (none)))) else (if a2 = 0 ∨ a2 = 1 then (some (some (v_i a2), μ)) else (none)) := (kd_unf [1] 40).trans rfl
-- 203 NumbersCalled$Tape.readNot(I)Z
set_option maxRecDepth 20000 in
theorem ke203_0 (d : Nat) (p1 : Int) (μ : mj_M) : kc (d + 1) 203 [v_r 14 0, v_i p1] μ = if (μ 14 0 7) = 5 then (mj_rI (kc d 207 [v_r 14 0, v_i 5, v_i p1] μ) fun x3 m4 => if x3 = 0 ∨ x3 = 1 then (some (some (v_i x3), m4)) else (none)) else (mj_rI (kc d 204 [v_r 14 0, v_i p1] μ) fun x1 m2 => if x1 = 0 then (if x1 = 0 ∨ x1 = 1 then (some (some (v_i x1), m2)) else (none)) else (if (m2 14 0 7) = 60 then (kd d 203 2 [some (v_r 14 0), some (v_i p1), some (v_i x1), some (v_i (m2 14 0 7))] [] m2) else (if (m2 14 0 7) = 61 then (kd d 203 2 [some (v_r 14 0), some (v_i p1), some (v_i x1), some (v_i (m2 14 0 7))] [] m2) else (if x1 = 0 ∨ x1 = 1 then (some (some (v_i x1), m2)) else (none))))) := (kd_unf [2] 40).trans rfl
set_option maxRecDepth 20000 in
theorem ke203_2 (d : Nat) (a1 : Int) (o2 : Option mj_V) (a3 : Int) (μ : mj_M) : kd d 203 2 [some (v_r 14 0), some (v_i a1), o2, some (v_i a3)] [] μ = mj_rV (kc d 208 [v_r 14 0] μ) fun m1 => mj_rI (kc d 204 [v_r 14 0, v_i a1] m1) fun x2 m3 => if (0 : Int) ≤ a3 ∧ (0 : Int) ≤ (-1) then (mj_rV (kc d 200 [v_r 14 0, v_i ((a3.toNat ^^^ (-1).toNat : Nat) : Int)] m3) fun m4 => if x2 = 0 ∨ x2 = 1 then (some (some (v_i x2), m4)) else (none)) else (none) := (kd_unf [2] 40).trans rfl
-- 204 NumbersCalled$Tape.readSum(I)Z
set_option maxRecDepth 20000 in
theorem ke204_0 (d : Nat) (p1 : Int) (μ : mj_M) : kc (d + 1) 204 [v_r 14 0, v_i p1] μ = mj_rI (kc d 205 [v_r 14 0, v_i p1] μ) fun x1 m2 => kd d 204 1 [some (v_r 14 0), some (v_i p1), some (v_i x1), some (v_i 0), none] [] m2 := (kd_unf [1, 2] 40).trans rfl
set_option maxRecDepth 20000 in
theorem ke204_1 (d : Nat) (a1 : Int) (a2 : Int) (a3 : Int) (o4 : Option mj_V) (μ : mj_M) : kd d 204 1 [some (v_r 14 0), some (v_i a1), some (v_i a2), some (v_i a3), o4] [] μ = if a3 < 160 then (if a2 = 0 then (if a2 = 0 ∨ a2 = 1 then (some (some (v_i a2), μ)) else (none)) else (if (μ 14 0 7) = 43 then (kd d 204 2 [some (v_r 14 0), some (v_i a1), some (v_i a2), some (v_i a3), none] [] μ) else (if (μ 14 0 7) = 45 then (kd d 204 2 [some (v_r 14 0), some (v_i a1), some (v_i a2), some (v_i a3), none] [] μ) else (if a2 = 0 ∨ a2 = 1 then (some (some (v_i a2), μ)) else (none))))) else (if a2 = 0 ∨ a2 = 1 then (some (some (v_i a2), μ)) else (none)) := (kd_unf [1, 2] 40).trans rfl
set_option maxRecDepth 20000 in
theorem ke204_2 (d : Nat) (a1 : Int) (o2 : Option mj_V) (a3 : Int) (o4 : Option mj_V) (μ : mj_M) : kd d 204 2 [some (v_r 14 0), some (v_i a1), o2, some (v_i a3), o4] [] μ = mj_rV (kc d 208 [v_r 14 0] μ) fun m1 => mj_rI (kc d 205 [v_r 14 0, v_i a1] m1) fun x2 m3 => if (0 : Int) ≤ (μ 14 0 7) ∧ (0 : Int) ≤ (-1) then (mj_rV (kc d 200 [v_r 14 0, v_i (((μ 14 0 7).toNat ^^^ (-1).toNat : Nat) : Int)] m3) fun m4 => kd d 204 1 [some (v_r 14 0), some (v_i a1), some (v_i x2), some (v_i (mj_w (a3 + 1))), some (v_i (μ 14 0 7))] [] m4) else (none) := (kd_unf [1, 2] 40).trans rfl
-- 205 NumbersCalled$Tape.readTerm(I)Z
set_option maxRecDepth 20000 in
theorem ke205_0 (d : Nat) (p1 : Int) (μ : mj_M) : kc (d + 1) 205 [v_r 14 0, v_i p1] μ = mj_rI (kc d 206 [v_r 14 0, v_i p1] μ) fun x1 m2 => kd d 205 1 [some (v_r 14 0), some (v_i p1), some (v_i x1), some (v_i 0)] [] m2 := (kd_unf [1] 40).trans rfl
set_option maxRecDepth 20000 in
theorem ke205_1 (d : Nat) (a1 : Int) (a2 : Int) (a3 : Int) (μ : mj_M) : kd d 205 1 [some (v_r 14 0), some (v_i a1), some (v_i a2), some (v_i a3)] [] μ = if a3 < 160 then (if a2 = 0 then (if a2 = 0 ∨ a2 = 1 then (some (some (v_i a2), μ)) else (none)) else (if (μ 14 0 7) = 42 then (mj_rV (kc d 208 [v_r 14 0] μ) fun m1 => mj_rI (kc d 206 [v_r 14 0, v_i a1] m1) fun x2 m3 => mj_rV (kc d 200 [v_r 14 0, v_i (-43)] m3) fun m4 => kd d 205 1 [some (v_r 14 0), some (v_i a1), some (v_i x2), some (v_i (mj_w (a3 + 1)))] [] m4) else (if a2 = 0 ∨ a2 = 1 then (some (some (v_i a2), μ)) else (none)))) else (if a2 = 0 ∨ a2 = 1 then (some (some (v_i a2), μ)) else (none)) := (kd_unf [1] 40).trans rfl
-- 206 NumbersCalled$Tape.readOne(I)Z
set_option maxRecDepth 20000 in
theorem ke206_0 (d : Nat) (p1 : Int) (μ : mj_M) : kc (d + 1) 206 [v_r 14 0, v_i p1] μ = if (μ 14 0 7) = 45 then (mj_rI (kc d 207 [v_r 14 0, v_i 12, v_i p1] μ) fun x5 m6 => if x5 = 0 ∨ x5 = 1 then (some (some (v_i x5), m6)) else (none)) else (if (μ 14 0 7) = 40 then (mj_rI (kc d 207 [v_r 14 0, v_i 40, v_i p1] μ) fun x3 m4 => if x3 = 0 ∨ x3 = 1 then (some (some (v_i x3), m4)) else (none)) else (mj_rI (kc d 44 [v_i (μ 14 0 7), v_i 6, v_i 11] μ) fun x1 m2 => if (m2 14 0 7) = 13 then (kd d 206 3 [some (v_r 14 0), none, some (v_i x1)] [] m2) else (if x1 = 0 then (some (some (v_i 0), m2)) else (kd d 206 3 [some (v_r 14 0), none, some (v_i x1)] [] m2)))) := (kd_unf [3] 40).trans rfl
set_option maxRecDepth 20000 in
theorem ke206_3 (d : Nat) (o1 : Option mj_V) (a2 : Int) (μ : mj_M) : kd d 206 3 [some (v_r 14 0), o1, some (v_i a2)] [] μ = if a2 = 0 then (mj_rV (kc d 200 [v_r 14 0, v_i (μ 14 0 8)] μ) fun m1 => mj_rV (kc d 208 [v_r 14 0] m1) fun m2 => some (some (v_i 1), m2)) else (if (0 : Int) ≤ (μ 14 0 7) ∧ (0 : Int) ≤ (-1) then (mj_rV (kc d 200 [v_r 14 0, v_i (((μ 14 0 7).toNat ^^^ (-1).toNat : Nat) : Int)] μ) fun m3 => mj_rV (kc d 208 [v_r 14 0] m3) fun m4 => some (some (v_i 1), m4)) else (none)) := (kd_unf [3] 40).trans rfl
-- 207 NumbersCalled$Tape.readBehind(II)Z
set_option maxRecDepth 20000 in
theorem ke207_0 (d : Nat) (p1 : Int) (p2 : Int) (μ : mj_M) : kc (d + 1) 207 [v_r 14 0, v_i p1, v_i p2] μ = if p2 < 5 then (mj_rV (kc d 208 [v_r 14 0] μ) fun m1 => if p1 = 40 then (mj_rI (kc d 201 [v_r 14 0, v_i (mj_w (p2 + 1))] m1) fun x8 m9 => if x8 = 0 then (some (some (v_i 0), m9)) else (mj_rI (kc d 199 [v_r 14 0, v_i 41] m9) fun x10 m11 => if x10 = 0 then (some (some (v_i 0), m11)) else (some (some (v_i 1), m11)))) else (if p1 = 5 then (mj_rI (kc d 203 [v_r 14 0, v_i (mj_w (p2 + 1))] m1) fun x5 m6 => if (0 : Int) ≤ p1 ∧ (0 : Int) ≤ (-1) then (mj_rV (kc d 200 [v_r 14 0, v_i ((p1.toNat ^^^ (-1).toNat : Nat) : Int)] m6) fun m7 => if x5 = 0 ∨ x5 = 1 then (some (some (v_i x5), m7)) else (none)) else (none)) else (mj_rI (kc d 206 [v_r 14 0, v_i (mj_w (p2 + 1))] m1) fun x2 m3 => if (0 : Int) ≤ p1 ∧ (0 : Int) ≤ (-1) then (mj_rV (kc d 200 [v_r 14 0, v_i ((p1.toNat ^^^ (-1).toNat : Nat) : Int)] m3) fun m4 => if x2 = 0 ∨ x2 = 1 then (some (some (v_i x2), m4)) else (none)) else (none)))) else (some (some (v_i 0), μ)) := (kd_unf [] 40).trans rfl
-- 208 NumbersCalled$Tape.step()V
set_option maxRecDepth 20000 in
theorem ke208_0 (d : Nat) (o1 : Option mj_V) (μ : mj_M) : kd d 208 0 [some (v_r 14 0), o1] [] μ = if (μ 14 0 5) < (μ 14 0 1) then (if 0 ≤ (μ 14 0 5) ∧ (μ 14 0 5) < 160 then (if (μ 15 0 ((μ 14 0 5).toNat)) = 32 then (kd d 208 0 [some (v_r 14 0), none] [] (mj_up μ 14 0 5 (mj_w ((μ 14 0 5) + 1)))) else (if 0 ≤ (μ 14 0 5) ∧ (μ 14 0 5) < 160 then (if (μ 15 0 ((μ 14 0 5).toNat)) = 10 then (kd d 208 0 [some (v_r 14 0), none] [] (mj_up μ 14 0 5 (mj_w ((μ 14 0 5) + 1)))) else (kd d 208 2 [some (v_r 14 0), none] [] μ)) else (none))) else (none)) else (kd d 208 2 [some (v_r 14 0), none] [] μ) := (kd_unf [0, 2] 40).trans rfl
set_option maxRecDepth 20000 in
theorem ke208_2 (d : Nat) (o1 : Option mj_V) (μ : mj_M) : kd d 208 2 [some (v_r 14 0), o1] [] μ = if (μ 14 0 5) < (μ 14 0 1) then (if 0 ≤ (μ 14 0 5) ∧ (μ 14 0 5) < 160 then (mj_rI (kc d 44 [v_i (μ 15 0 ((μ 14 0 5).toNat)), v_i 97, v_i 122] (mj_up μ 14 0 6 (μ 14 0 5))) fun x1 m2 => if x1 = 0 then (mj_rI (kc d 44 [v_i (μ 15 0 ((μ 14 0 5).toNat)), v_i 48, v_i 57] m2) fun x3 m4 => if x3 = 0 then (mj_rI (kc d 210 [v_i (μ 15 0 ((μ 14 0 5).toNat))] (mj_up m4 14 0 5 (mj_w ((m4 14 0 5) + 1)))) fun x5 m6 => if x5 = 0 then (some (none, mj_up m6 14 0 7 15)) else (some (none, mj_up m6 14 0 7 (μ 15 0 ((μ 14 0 5).toNat))))) else (mj_rV (kc d 209 [v_r 14 0, v_i 48, v_i 57] m4) fun m7 => mj_rI (kc d 211 [v_r 14 0] m7) fun x8 m9 => some (none, mj_up m9 14 0 7 x8))) else (mj_rV (kc d 209 [v_r 14 0, v_i 97, v_i 122] m2) fun m10 => mj_rI (kc d 212 [v_r 14 0] m10) fun x11 m12 => some (none, mj_up m12 14 0 7 x11))) else (none)) else (some (none, mj_up (mj_up μ 14 0 6 (μ 14 0 5)) 14 0 7 14)) := (kd_unf [0, 2] 40).trans rfl
-- 209 NumbersCalled$Tape.passAll(II)V
set_option maxRecDepth 20000 in
theorem ke209_0 (d : Nat) (a1 : Int) (a2 : Int) (μ : mj_M) : kd d 209 0 [some (v_r 14 0), some (v_i a1), some (v_i a2)] [] μ = if (μ 14 0 5) < (μ 14 0 1) then (if 0 ≤ (μ 14 0 5) ∧ (μ 14 0 5) < 160 then (mj_rI (kc d 44 [v_i (μ 15 0 ((μ 14 0 5).toNat)), v_i a1, v_i a2] μ) fun x1 m2 => if x1 = 0 then (some (none, m2)) else (kd d 209 0 [some (v_r 14 0), some (v_i a1), some (v_i a2)] [] (mj_up m2 14 0 5 (mj_w ((m2 14 0 5) + 1))))) else (none)) else (some (none, μ)) := (kd_unf [0] 40).trans rfl
-- 210 NumbersCalled$Tape.isSign(I)Z
set_option maxRecDepth 20000 in
theorem ke210_0 (d : Nat) (p0 : Int) (μ : mj_M) : kc (d + 1) 210 [v_i p0] μ = if p0 = 40 then (some (some (v_i 1), μ)) else (if p0 = 41 then (some (some (v_i 1), μ)) else (if p0 = 59 then (some (some (v_i 1), μ)) else (if p0 = 43 then (some (some (v_i 1), μ)) else (if p0 = 45 then (some (some (v_i 1), μ)) else (if p0 = 42 then (some (some (v_i 1), μ)) else (if p0 = 60 then (some (some (v_i 1), μ)) else (if p0 = 61 then (some (some (v_i 1), μ)) else (some (some (v_i 0), μ))))))))) := (kd_unf [] 40).trans rfl
-- 211 NumbersCalled$Tape.numberToken()I
set_option maxRecDepth 20000 in
theorem ke211_0 (d : Nat)  (μ : mj_M) : kc (d + 1) 211 [v_r 14 0] μ = if 4 < (mj_w ((μ 14 0 5) - (μ 14 0 6))) then (some (some (v_i 15), μ)) else (kd d 211 2 [some (v_r 14 0), some (v_i (μ 14 0 6))] [] (mj_up μ 14 0 8 0)) := (kd_unf [2] 40).trans rfl
set_option maxRecDepth 20000 in
theorem ke211_2 (d : Nat) (a1 : Int) (μ : mj_M) : kd d 211 2 [some (v_r 14 0), some (v_i a1)] [] μ = if a1 < (μ 14 0 5) then (if 0 ≤ a1 ∧ a1 < 160 then (kd d 211 2 [some (v_r 14 0), some (v_i (mj_w (a1 + 1)))] [] (mj_up μ 14 0 8 (mj_w ((mj_w ((mj_w ((μ 14 0 8) * 10)) + (μ 15 0 a1.toNat))) - 48)))) else (none)) else (some (some (v_i 13), μ)) := (kd_unf [2] 40).trans rfl
-- 212 NumbersCalled$Tape.wordToken()I
set_option maxRecDepth 20000 in
theorem ke212_0 (d : Nat)  (μ : mj_M) : kc (d + 1) 212 [v_r 14 0] μ = if 6 < (mj_w ((μ 14 0 5) - (μ 14 0 6))) then (some (some (v_i 15), μ)) else (kd d 212 2 [some (v_r 14 0), some (v_i 0)] [] μ) := (kd_unf [2] 40).trans rfl
set_option maxRecDepth 20000 in
theorem ke212_2 (d : Nat) (a1 : Int) (μ : mj_M) : kd d 212 2 [some (v_r 14 0), some (v_i a1)] [] μ = if a1 < 12 then (mj_rI (kc d 213 [v_r 14 0, v_i a1] μ) fun x1 m2 => if x1 = 0 then (kd d 212 2 [some (v_r 14 0), some (v_i (mj_w (a1 + 1)))] [] m2) else (some (some (v_i a1), m2))) else (some (some (v_i 15), μ)) := (kd_unf [2] 40).trans rfl
-- 213 NumbersCalled$Tape.isWord(I)Z
set_option maxRecDepth 20000 in
theorem ke213_0 (d : Nat) (p1 : Int) (μ : mj_M) : kc (d + 1) 213 [v_r 14 0, v_i p1] μ = kd d 213 1 [some (v_r 14 0), some (v_i p1), some (v_i 0), none] [] μ := (kd_unf [1, 3] 40).trans rfl
set_option maxRecDepth 20000 in
theorem ke213_1 (d : Nat) (a1 : Int) (a2 : Int) (o3 : Option mj_V) (μ : mj_M) : kd d 213 1 [some (v_r 14 0), some (v_i a1), some (v_i a2), o3] [] μ = if a2 < 6 then (if (mj_w ((μ 14 0 6) + a2)) < (μ 14 0 5) then (if 0 ≤ (mj_w ((μ 14 0 6) + a2)) ∧ (mj_w ((μ 14 0 6) + a2)) < 160 then (kd d 213 3 [some (v_r 14 0), some (v_i a1), some (v_i a2), none] [v_i (μ 15 0 ((mj_w ((μ 14 0 6) + a2)).toNat))] μ) else (none)) else (kd d 213 3 [some (v_r 14 0), some (v_i a1), some (v_i a2), none] [v_i 32] μ)) else (some (some (v_i 1), μ)) := (kd_unf [1, 3] 40).trans rfl
set_option maxRecDepth 20000 in
theorem ke213_3 (d : Nat) (a1 : Int) (a2 : Int) (o3 : Option mj_V) (s0 : Int) (μ : mj_M) : kd d 213 3 [some (v_r 14 0), some (v_i a1), some (v_i a2), o3] [v_i s0] μ = mj_tb4 mk_TB 0 (mj_w ((mj_w (a1 * 6)) + a2)) fun x1 => if x1 = s0 then (kd d 213 1 [some (v_r 14 0), some (v_i a1), some (v_i (mj_w (a2 + 1))), none] [] μ) else (some (some (v_i 0), μ)) := (kd_unf [1, 3] 40).trans rfl
-- 214 NumbersCalled$Text.become(LNumbersCalled$Tape;)V
set_option maxRecDepth 20000 in
theorem ke214_0 (d : Nat) (i0 : Nat) (μ : mj_M) : kc (d + 1) 214 [v_r 9 i0, v_r 14 0] μ = kd d 214 1 [some (v_r 9 i0), some (v_r 14 0), some (v_i 0)] [] μ := (kd_unf [1, 3] 40).trans rfl
set_option maxRecDepth 20000 in
theorem ke214_1 (d : Nat) (i0 : Nat) (a2 : Int) (μ : mj_M) : kd d 214 1 [some (v_r 9 i0), some (v_r 14 0), some (v_i a2)] [] μ = if a2 < 160 then (if 0 ≤ a2 ∧ a2 < 160 then (if 0 ≤ a2 ∧ a2 < 160 then (kd d 214 1 [some (v_r 9 i0), some (v_r 14 0), some (v_i (mj_w (a2 + 1)))] [] (mj_up μ 10 i0 a2.toNat (μ 16 0 a2.toNat))) else (none)) else (none)) else (kd d 214 3 [some (v_r 9 i0), some (v_r 14 0), some (v_i 0)] [] μ) := (kd_unf [1, 3] 40).trans rfl
set_option maxRecDepth 20000 in
theorem ke214_3 (d : Nat) (i0 : Nat) (a2 : Int) (μ : mj_M) : kd d 214 3 [some (v_r 9 i0), some (v_r 14 0), some (v_i a2)] [] μ = if 2 < a2 then (some (none, μ)) else (if 0 ≤ a2 ∧ a2 < 3 then (if 0 ≤ a2 ∧ a2 < 3 then (kd d 214 3 [some (v_r 9 i0), some (v_r 14 0), some (v_i (mj_w (a2 + 1)))] [] (mj_up μ 11 i0 a2.toNat (μ 17 0 a2.toNat))) else (none)) else (none)) := (kd_unf [1, 3] 40).trans rfl
-- 215 NumbersCalled$Text.worth(ILNumbersCalled$Asker;III)I
set_option maxRecDepth 20000 in
theorem ke215_0 (d : Nat) (i0 : Nat) (p1 : Int) (i2 : Nat) (p3 : Int) (p4 : Int) (p5 : Int) (μ : mj_M) : kc (d + 1) 215 [v_r 9 i0, v_i p1, v_r 7 i2, v_i p3, v_i p4, v_i p5] μ = if p1 = 0 then (kd d 215 3 [some (v_r 9 i0), some (v_i p1), none, none, none, none, some (v_i 0), some (v_i 0), none, none, none] [] (mj_up (mj_up (mj_up (mj_up (mj_up (mj_up μ 13 i0 0 (μ 7 i2 2)) 13 i0 1 (μ 7 i2 3)) 13 i0 2 p4) 13 i0 3 p3) 13 i0 4 p5) 13 i0 5 (μ 7 i2 1))) else (if 0 ≤ (mj_w (p1 - 1)) ∧ (mj_w (p1 - 1)) < 3 then (kd d 215 3 [some (v_r 9 i0), some (v_i p1), none, none, none, none, some (v_i 0), some (v_i (μ 11 i0 ((mj_w (p1 - 1)).toNat))), none, none, none] [] (mj_up (mj_up (mj_up (mj_up (mj_up (mj_up μ 13 i0 0 (μ 7 i2 2)) 13 i0 1 (μ 7 i2 3)) 13 i0 2 p4) 13 i0 3 p3) 13 i0 4 p5) 13 i0 5 (μ 7 i2 1))) else (none)) := (kd_unf [3, 5, 6, 10] 40).trans rfl
set_option maxRecDepth 20000 in
theorem ke215_3 (d : Nat) (i0 : Nat) (a1 : Int) (o2 : Option mj_V) (o3 : Option mj_V) (o4 : Option mj_V) (o5 : Option mj_V) (a6 : Int) (a7 : Int) (o8 : Option mj_V) (o9 : Option mj_V) (o10 : Option mj_V) (μ : mj_M) : kd d 215 3 [some (v_r 9 i0), some (v_i a1), o2, o3, o4, o5, some (v_i a6), some (v_i a7), o8, o9, o10] [] μ = if 0 ≤ a1 ∧ a1 < 3 then (if a7 < (μ 11 i0 a1.toNat) then (if 0 ≤ a7 ∧ a7 < 160 then (if (0 : Int) ≤ (μ 10 i0 a7.toNat) ∧ (0 : Int) ≤ (-1) then (if (((μ 10 i0 a7.toNat).toNat ^^^ (-1).toNat : Nat) : Int) < 6 then (kd d 215 5 [some (v_r 9 i0), some (v_i a1), none, none, none, none, some (v_i a6), some (v_i a7), some (v_i (((μ 10 i0 a7.toNat).toNat ^^^ (-1).toNat : Nat) : Int)), none, none] [v_i 0] μ) else (if 11 < (((μ 10 i0 a7.toNat).toNat ^^^ (-1).toNat : Nat) : Int) then (kd d 215 5 [some (v_r 9 i0), some (v_i a1), none, none, none, none, some (v_i a6), some (v_i a7), some (v_i (((μ 10 i0 a7.toNat).toNat ^^^ (-1).toNat : Nat) : Int)), none, none] [v_i 0] μ) else (kd d 215 5 [some (v_r 9 i0), some (v_i a1), none, none, none, none, some (v_i a6), some (v_i a7), some (v_i (((μ 10 i0 a7.toNat).toNat ^^^ (-1).toNat : Nat) : Int)), none, none] [v_i 1] μ))) else (none)) else (none)) else (if 0 < a6 then (some (some (v_i (μ 12 i0 0)), μ)) else (some (some (v_i 0), μ)))) else (none) := (kd_unf [3, 5, 6, 10] 40).trans rfl
set_option maxRecDepth 20000 in
theorem ke215_5 (d : Nat) (i0 : Nat) (a1 : Int) (o2 : Option mj_V) (o3 : Option mj_V) (o4 : Option mj_V) (o5 : Option mj_V) (a6 : Int) (a7 : Int) (a8 : Int) (o9 : Option mj_V) (o10 : Option mj_V) (s0 : Int) (μ : mj_M) : kd d 215 5 [some (v_r 9 i0), some (v_i a1), o2, o3, o4, o5, some (v_i a6), some (v_i a7), some (v_i a8), o9, o10] [v_i s0] μ = if a8 < 0 then (kd d 215 6 [some (v_r 9 i0), some (v_i a1), none, none, none, none, some (v_i a6), some (v_i a7), some (v_i a8), some (v_i s0), none] [] μ) else (if s0 = 0 then (if a8 = 5 then (kd d 215 10 [some (v_r 9 i0), some (v_i a1), none, none, none, none, some (v_i a6), some (v_i a7), some (v_i a8), none, none] [] μ) else (if a8 = 12 then (kd d 215 10 [some (v_r 9 i0), some (v_i a1), none, none, none, none, some (v_i a6), some (v_i a7), some (v_i a8), none, none] [] μ) else (if 1 < a6 then (if 0 ≤ (mj_w ((mj_w (a6 + (-1))) - 1)) ∧ (mj_w ((mj_w (a6 + (-1))) - 1)) < 32 then (if 0 ≤ (mj_w (a6 + (-1))) ∧ (mj_w (a6 + (-1))) < 32 then (mj_rI (kc d 216 [v_i a8, v_i (μ 12 i0 ((mj_w ((mj_w (a6 + (-1))) - 1)).toNat)), v_i (μ 12 i0 ((mj_w (a6 + (-1))).toNat))] μ) fun x1 m2 => if 0 ≤ (mj_w ((mj_w (a6 + (-1))) - 1)) ∧ (mj_w ((mj_w (a6 + (-1))) - 1)) < 32 then (kd d 215 3 [some (v_r 9 i0), some (v_i a1), none, none, none, none, some (v_i (mj_w (a6 + (-1)))), some (v_i (mj_w (a7 + 1))), none, none, none] [] (mj_up m2 12 i0 ((mj_w ((mj_w (a6 + (-1))) - 1)).toNat) x1)) else (none)) else (none)) else (none)) else (kd d 215 3 [some (v_r 9 i0), some (v_i a1), none, none, none, none, some (v_i a6), some (v_i (mj_w (a7 + 1))), none, none, none] [] μ)))) else (kd d 215 6 [some (v_r 9 i0), some (v_i a1), none, none, none, none, some (v_i a6), some (v_i a7), some (v_i a8), some (v_i s0), none] [] μ)) := (kd_unf [3, 5, 6, 10] 40).trans rfl
set_option maxRecDepth 20000 in
theorem ke215_6 (d : Nat) (i0 : Nat) (a1 : Int) (o2 : Option mj_V) (o3 : Option mj_V) (o4 : Option mj_V) (o5 : Option mj_V) (a6 : Int) (a7 : Int) (a8 : Int) (a9 : Int) (o10 : Option mj_V) (μ : mj_M) : kd d 215 6 [some (v_r 9 i0), some (v_i a1), o2, o3, o4, o5, some (v_i a6), some (v_i a7), some (v_i a8), some (v_i a9), o10] [] μ = if a6 < 32 then (if a9 = 0 then (if 0 ≤ a7 ∧ a7 < 160 then (if 0 ≤ a6 ∧ a6 < 32 then (kd d 215 3 [some (v_r 9 i0), some (v_i a1), none, none, none, none, some (v_i (mj_w (a6 + 1))), some (v_i (mj_w (a7 + 1))), none, none, none] [] (mj_up μ 12 i0 a6.toNat (μ 10 i0 a7.toNat))) else (none)) else (none)) else (if 0 ≤ (mj_w (a8 - 6)) ∧ (mj_w (a8 - 6)) < 6 then (if 0 ≤ a6 ∧ a6 < 32 then (kd d 215 3 [some (v_r 9 i0), some (v_i a1), none, none, none, none, some (v_i (mj_w (a6 + 1))), some (v_i (mj_w (a7 + 1))), none, none, none] [] (mj_up μ 12 i0 a6.toNat (μ 13 i0 ((mj_w (a8 - 6)).toNat)))) else (none)) else (none))) else (kd d 215 3 [some (v_r 9 i0), some (v_i a1), none, none, none, none, some (v_i a6), some (v_i (mj_w (a7 + 1))), none, none, none] [] μ) := (kd_unf [3, 5, 6, 10] 40).trans rfl
set_option maxRecDepth 20000 in
theorem ke215_10 (d : Nat) (i0 : Nat) (a1 : Int) (o2 : Option mj_V) (o3 : Option mj_V) (o4 : Option mj_V) (o5 : Option mj_V) (a6 : Int) (a7 : Int) (a8 : Int) (o9 : Option mj_V) (o10 : Option mj_V) (μ : mj_M) : kd d 215 10 [some (v_r 9 i0), some (v_i a1), o2, o3, o4, o5, some (v_i a6), some (v_i a7), some (v_i a8), o9, o10] [] μ = if 0 < a6 then (if 0 ≤ (mj_w (a6 - 1)) ∧ (mj_w (a6 - 1)) < 32 then (if a8 = 12 then (if 0 ≤ (mj_w (a6 - 1)) ∧ (mj_w (a6 - 1)) < 32 then (kd d 215 3 [some (v_r 9 i0), some (v_i a1), none, none, none, none, some (v_i a6), some (v_i (mj_w (a7 + 1))), none, none, none] [] (mj_up μ 12 i0 ((mj_w (a6 - 1)).toNat) (mj_w (-(μ 12 i0 ((mj_w (a6 - 1)).toNat)))))) else (none)) else (if (μ 12 i0 ((mj_w (a6 - 1)).toNat)) = 0 then (if 0 ≤ (mj_w (a6 - 1)) ∧ (mj_w (a6 - 1)) < 32 then (kd d 215 3 [some (v_r 9 i0), some (v_i a1), none, none, none, none, some (v_i a6), some (v_i (mj_w (a7 + 1))), none, none, none] [] (mj_up μ 12 i0 ((mj_w (a6 - 1)).toNat) 1)) else (none)) else (if 0 ≤ (mj_w (a6 - 1)) ∧ (mj_w (a6 - 1)) < 32 then (kd d 215 3 [some (v_r 9 i0), some (v_i a1), none, none, none, none, some (v_i a6), some (v_i (mj_w (a7 + 1))), none, none, none] [] (mj_up μ 12 i0 ((mj_w (a6 - 1)).toNat) 0)) else (none)))) else (none)) else (kd d 215 3 [some (v_r 9 i0), some (v_i a1), none, none, none, none, some (v_i a6), some (v_i (mj_w (a7 + 1))), none, none, none] [] μ) := (kd_unf [3, 5, 6, 10] 40).trans rfl
-- 216 NumbersCalled$Text.joined(III)I
set_option maxRecDepth 20000 in
theorem ke216_0 (d : Nat) (p0 : Int) (p1 : Int) (p2 : Int) (μ : mj_M) : kc (d + 1) 216 [v_i p0, v_i p1, v_i p2] μ = if p0 = 3 then (if p1 = 0 then (if p2 = 0 then (some (some (v_i 0), μ)) else (some (some (v_i 1), μ))) else (some (some (v_i 1), μ))) else if p0 = 4 then (if p1 = 0 then (some (some (v_i 0), μ)) else (if p2 = 0 then (some (some (v_i 0), μ)) else (some (some (v_i 1), μ)))) else if p0 = 43 then (some (some (v_i (mj_w (p1 + p2))), μ)) else if p0 = 45 then (some (some (v_i (mj_w (p1 - p2))), μ)) else if p0 = 60 then (if p1 < p2 then (some (some (v_i 1), μ)) else (some (some (v_i 0), μ))) else if p0 = 61 then (if p1 = p2 then (some (some (v_i 1), μ)) else (some (some (v_i 0), μ))) else (some (some (v_i (mj_w (p1 * p2))), μ)) := (kd_unf [] 40).trans rfl
end
